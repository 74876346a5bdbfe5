/** What part 3 of the document's terms says: each bound, and the next one outside of it. */
public final class ForecastEdgesTest {
    private static final int NONE = DriftSea.NONE;
    /** Isle 0 is at 0, 4, 8, 4 .. in x, isle 1 at 10, 8, 6, 8 .. */
    private static final String SWING = "ix0y0;ix10y0m2;tw4";

    public static void main(String[] args) throws ReflectiveOperationException {
        Edges.runAll(ForecastEdgesTest.class);
    }

    /** Isle 0 is too heavy to go; isle 1 comes by 1 a SEASON from so far away in x. */
    private static DriftSea comesFrom(int x) {
        return Check.sea("ix0y0m9;ix" + x + "y0;t");
    }

    // ---- the next SEASON ----

    @Says("(All of these apart, from as it is, without STORMS and SALT.)")
    static void withoutStorms() {
        DriftSea calm = Check.sea(SWING + ";bl9");
        DriftSea wild = Check.sea(SWING + ";bl9");
        wild.chance(0, 99);
        wild.chance(1, 99);
        for (int n = 1; n <= 60; n++) {
            Edges.due("ahead " + n, wild.ahead(0, n, 0), calm.ahead(0, n, 0));
        }
        Edges.due("round", wild.round(60, 0), 3);
        Edges.due("nearest", wild.nearest(0, 1, 60, 1), 2);
        Edges.due("when", wild.when(0, 2, 60), 2);
        Edges.due("sail", wild.sail(0, 1, 1, 0), calm.sail(0, 1, 1, 0));
        Edges.due("KIND", wild.tie(0, 2), 0);
        Edges.due("SEASON", wild.count(6), 0);
        wild.go(1);
        Edges.due("from as it is", wild.ahead(0, 1, 0), 8);
        wild.turn(0);
        Edges.due("from as it is, a quarrel", wild.ahead(0, 1, 0), 0);
    }

    /** What asks for other TIES than those that are told. */
    private static void askForOthers(DriftSea sea, int way) {
        switch (way) {
            case 0: sea.treaty(1, 0, 3, 9); break;
            case 1: sea.bicker(1, 0, 0, 2, 9, 0); break;
            case 2: sea.fits(0); break;
            case 3: sea.secret(NONE); break;
            default: sea.treaty(1, 60, 1, 9);
        }
    }

    @Says("(All of these apart): no TREATY, BICKERING, SECRET or set of TIES is in what is asked next")
    static void apartFromOneAnother() {
        for (int way = 0; way <= 4; way++) {
            DriftSea sea = toBeAsked();
            askForOthers(sea, way);
            Edges.due("drift behind " + way, sea.drift(0, 0), 1);
            askForOthers(sea, way);
            Edges.due("drift of another behind " + way, sea.drift(2, 1), -1);
            askForOthers(sea, way);
            Edges.due("led behind " + way, sea.led(0, 0, 0), 2);
            askForOthers(sea, way);
            Edges.due("ahead behind " + way, sea.ahead(0, 1, 0), 1);
            askForOthers(sea, way);
            Edges.due("nearest behind " + way, sea.nearest(0, 1, 1, 0), 57);
            askForOthers(sea, way);
            Edges.due("haste behind " + way, sea.haste(0, 1, 1), 58);
            for (int then = 0; then <= 4; then++) {
                long[] alone = answersOf(toBeAsked(), then);
                askForOthers(sea, way);
                long[] behind = answersOf(sea, then);
                for (int i = 0; i < alone.length; i++) {
                    Edges.due(then + " behind " + way + ", answer " + i, behind[i], alone[i]);
                }
            }
            askForOthers(sea, way);
            sea.go(1);
            Edges.due("go behind " + way, Check.isle(sea, 0, 0), 1);
            Edges.due("go of another behind " + way, Check.isle(sea, 2, 1), 39);
            sea.undo();
            askForOthers(sea, way);
            sea.years(1, 1L);
            Edges.due("years behind " + way, Check.isle(sea, 0, 0), 1);
        }
    }

    /** With a CHART that is so by the first TIE alone. */
    private static DriftSea toBeAsked() {
        DriftSea sea = Check.sea("wj1;ix0y0m2;ix60y0;ix30y40;tw2;ta1b2w3;bl59");
        sea.chart(1, 0, 1, 0);
        return sea;
    }

    private static long[] answersOf(DriftSea sea, int way) {
        switch (way) {
            case 0: return new long[] {sea.treaty(1, 50, 3, 2), sea.treaty(1, 56, 1, 2)};
            case 1: return new long[] {sea.bicker(1, 56, 60, 2, 2, 0), sea.bicker(1, 56, 60, 1, 2, 1)};
            case 2: return new long[] {sea.fits(NONE), sea.fits(0), sea.fits(1)};
            case 3: return new long[] {sea.secret(NONE), sea.secret(5)};
            default: return new long[] {sea.rest(20), sea.snap(0), sea.when(0, 50, 20), sea.one(0, 1, 60)};
        }
    }

    @Says("LED: how far a TIE draws an ISLE in x, in y in the next SEASON (ahead of MASS)")
    static void ledAheadOfMass() {
        DriftSea sea = Check.sea("ix0y0m9;ix30y10m9;ix99;ta0b1w8;ta1b2k1w1");
        Edges.due("x of the first", sea.led(0, 0, 0), 6);
        Edges.due("y of the first", sea.led(0, 0, 1), 2);
        Edges.due("x of the second", sea.led(1, 0, 0), -6);
        Edges.due("y of the second", sea.led(1, 0, 1), -2);
        Edges.due("not of this TIE, x", sea.led(2, 0, 0), 0);
        Edges.due("not of this TIE, y", sea.led(2, 0, 1), 0);
        Edges.due("by this one alone", sea.led(1, 1, 0), 0);
        DriftSea most = Check.sea("ix0y0;ix99y0;t", "y:9999");
        Edges.due("the most", most.led(0, 0, 0), 99);
        Edges.due("the least", most.led(1, 0, 0), -99);
        DriftSea trade = Check.sea("wr1;ix0y0n1q9;ix30y0g1;tw2");
        Edges.due("trade is no TIE", trade.led(0, 0, 0), 2);
    }

    @Says("DRIFT: how far it goes in it in (2), by all")
    static void driftByAll() {
        DriftSea sea = Check.sea("wr1;ix0y0n1q9m2;ix30y0g1;ix0y40;tw4;ta0b2w7;ta0b1k1w1");
        Edges.due("4 and 9 less 1 by MASS 2", sea.drift(0, 0), 6);
        Edges.due("7 by MASS 2", sea.drift(0, 1), 3);
        Edges.due("who sells", sea.drift(1, 0), -12);
        Edges.due("who sells, y", sea.drift(1, 1), 0);
        Edges.due("the third", sea.drift(2, 1), -7);
        sea.go(1);
        Edges.due("it went so", Check.isle(sea, 0, 0), 6);
        Edges.due("it went so in y", Check.isle(sea, 0, 1), 3);
        Edges.due("no TIES", Check.sea("ix0;ix9").drift(1, 0), 0);
    }

    // ---- TRADE ----

    @Says("PAYS: what an ISLE pays in TRADE; SHORT: how much it lacks")
    static void paysAndShort() {
        DriftSea sea = Check.sea("wf2;ix0y0n1q9;ix5y0g1s3p4;ix0y9g1s2p1;ix50n2q3;ix60n4q9");
        Edges.due("3 by 14 and 2 by 19", sea.pays(0), 3 * 14 + 2 * 19);
        Edges.due("it lacks", sea.lacks(0), 4);
        Edges.due("nobody makes it: pays", sea.pays(3), 0);
        Edges.due("nobody makes it: lacks", sea.lacks(3), 3);
        Edges.due("no NEED: pays", sea.pays(4), 0);
        Edges.due("no NEED: lacks", sea.lacks(4), 0);
        Edges.due("who sells pays nothing", sea.pays(1), 0);
        sea.price(1, 0);
        Edges.due("PRICE 0", sea.pays(0), 3 * 10 + 2 * 19);
        sea.price(1, 99);
        Edges.due("PRICE 99", sea.pays(0), 3 * 109 + 2 * 19);
    }

    @Says("MONOPOLY of a GOOD: who sells the most of it (of several the lowest); how much")
    static void mostSold() {
        for (int good = 0; good <= 3; good++) {
            int other = good == 0 ? 1 : 0;
            DriftSea sea = Check.sea("wf0;ig" + other + "n" + good + "q5;ig" + good + "s2p1;ig" + good + "s3p2;ig" + good
                + "s9p9;ig" + other + "n4");
            Edges.due("who sells " + good, sea.monopoly(good, 0), 2);
            Edges.due("how much of " + good, sea.monopoly(good, 1), 3);
            Edges.due("nothing of " + other, sea.monopoly(other, 0), NONE);
            Edges.due("how much of nothing", sea.monopoly(other, 1), NONE);
        }
        DriftSea alike = Check.sea("wf0;in1q4;ig1s2p2;ig1s2p1");
        Edges.due("of several the lowest", alike.monopoly(1, 0), 1);
        Edges.due("as much each", alike.monopoly(1, 1), 2);
        DriftSea two = Check.sea("wf0;in1q2;ig1s1p1;ig1p2;in1q2");
        Edges.due("to all together", two.monopoly(1, 1), 3);
        Edges.due("who", two.monopoly(1, 0), 2);
        DriftSea one = Check.sea("in1q1;ig1s1");
        Edges.due("one of it", one.monopoly(1, 1), 1);
        Edges.due("STOCK 0", Check.sea("in1;ig1s0").monopoly(1, 0), NONE);
    }

    @Says("UNDERCUT: the least by which PRICE of an ISLE has to be less so that another one buys of it at all")
    static void undercut() {
        int[][] rows = {{3, 7, 5}, {7, 7, 1}, {8, 7, 0}, {0, 7, NONE}, {1, 7, 7}, {99, 0, 0}, {1, 0, 0}, {0, 0, NONE}};
        for (int[] row : rows) {
            DriftSea sea = Check.sea("wf0;in1;ig1p" + row[0] + ";ig1p" + row[1]);
            Edges.due("the higher one at " + row[1] + " against " + row[0], sea.undercut(2, 0), row[2]);
            Edges.due("its PRICE stays", Check.isle(sea, 2, 9), row[1]);
        }
        int[][] lower = {{3, 7, 4}, {7, 7, 0}, {0, 7, 7}, {0, 99, 99}, {0, 0, 0}};
        for (int[] row : lower) {
            DriftSea sea = Check.sea("wf0;in1;ig1p" + row[1] + ";ig1p" + row[0]);
            Edges.due("the lower one at " + row[1] + " against " + row[0], sea.undercut(1, 0), row[2]);
        }
        String far = "wf2;ix0y0n1;ix10y0g1p20;ix4y0g1p";
        Edges.due("40 against 20, 20 to cut", Check.sea(far + 12).undercut(1, 0), 20);
        Edges.due("40 against 19, 20 to cut", Check.sea(far + 11).undercut(1, 0), NONE);
        Edges.due("one of nine is enough", Check.sea("wf0;in1q9;ig1s8p1;ig1p50").undercut(2, 0), 0);
        Edges.due("another GOOD", Check.sea("in1;ig2;ig1").undercut(1, 0), NONE);
        Edges.due("no NEED", Check.sea("i;ig1").undercut(1, 0), NONE);
        Edges.due("no STOCK", Check.sea("in1;ig1s0").undercut(1, 0), NONE);
        Edges.due("the one ahead takes it all", Check.sea("in1q9;in1;ig1s9").undercut(2, 1), NONE);
        // at 5 less the first one buys it away, at 1 less the second one has it
        DriftSea away = Check.sea("wf1;ix0y0n1;ix20y0n1;ix20y0g1s1p25;ix0y0g1s1p20;ix20y0g1s9p24");
        Edges.due("the least, not the most", away.undercut(2, 1), 1);
    }

    // ---- SEASONS ahead ----

    @Says("AHEAD: where an ISLE is behind n (1 .. 60) SEASONS")
    static void ahead() {
        DriftSea sea = comesFrom(99);
        DriftSea goes = comesFrom(99);
        for (int n = 1; n <= 60; n++) {
            goes.go(1);
            Edges.due("x behind " + n, sea.ahead(1, n, 0), 99 - n);
            Edges.due("as when they go by", sea.ahead(1, n, 0), Check.isle(goes, 1, 0));
            Edges.due("y behind " + n, sea.ahead(1, n, 1), 0);
            Edges.due("HEAD behind " + n, sea.ahead(1, n, 2), 1);
        }
        Edges.due("n 0", sea.ahead(1, 0, 0), DriftSea.HIDDEN);
        Edges.due("n 61", sea.ahead(1, 61, 0), DriftSea.HIDDEN);
        Edges.due("it is where it was", Check.isle(sea, 1, 0), 99);
        DriftSea part = Check.sea("wj1;ix0y0m9;ix4y0;t");
        Edges.due("not one yet", part.ahead(1, 1, 2), 1);
        Edges.due("one SEASON too early", part.ahead(1, 2, 2), 1);
        Edges.due("where it is then", part.ahead(1, 2, 0), 2);
        Edges.due("a part's HEAD", part.ahead(1, 3, 2), 0);
        Edges.due("a part's place", part.ahead(1, 60, 0), 0);
        Edges.due("a part's place, y", part.ahead(1, 60, 1), 0);
    }

    @Says("REST: behind how many SEASONS (0 .. n; n 0 .. 60) first the next one would neither move a HEAD in (2) nor make parts")
    static void rest() {
        DriftSea still = Check.sea("ix0;ix60");
        Edges.due("at once, n 0", still.rest(0), 0);
        Edges.due("at once, n 60", still.rest(60), 0);
        for (int n : new int[] {1, 2, 59, 60, 61}) {
            DriftSea sea = Check.sea("ix0y0m9;ix9y0;t", "y:h<" + n + "?0-1;y:0");
            Edges.due("behind " + n + ", n 60", sea.rest(60), n > 60 ? NONE : n);
            Edges.due("behind " + n + ", one SEASON too few", sea.rest(n - 1), NONE);
            Edges.due("behind " + n + ", just so", sea.rest(n), n > 60 ? NONE : n);
        }
        // parts without a move, a move without parts
        DriftSea parts = Check.sea("i;i");
        Edges.due("parts, n 0", parts.rest(0), NONE);
        Edges.due("parts, n 1", parts.rest(1), 1);
        DriftSea y = Check.sea("ix0y0m9;ix0y9;t", "y:h<1?1;y:0");
        Edges.due("a move in y", y.rest(0), NONE);
        Edges.due("a move in y, n 1", y.rest(1), 1);
        Edges.due("first", Check.sea("ix0y0m9;ix9y0;t", "y:h=0?0;y:1").rest(60), 0);
        DriftSea drawn = Check.sea("ix0y0m9;ix60y0m9;tw8");
        Edges.due("drawn, but too heavy", drawn.rest(0), 0);
        DriftSea snaps = Check.sea("ix0y0;ix60y0;bl9");
        Edges.due("a BRIDGE that snaps is no move", snaps.rest(0), 0);
    }

    @Says("ROUND: the first SEASON from now (1 .. n) behind which places, MASS and HEADS of all are as behind an earlier one "
        + "(from 0, now); how long it is from that one")
    static void round() {
        // by 1 away in each SEASON, then back where they were: now, or behind 1
        int[][] rows = {{2, 0}, {2, 1}, {3, 0}, {3, 1}, {3, 2}, {59, 0}, {60, 0}, {60, 1}, {60, 58}, {60, 59}, {61, 0}};
        for (int[] row : rows) {
            int n = row[0];
            int steps = n - 1 - row[1];
            DriftSea sea = Check.sea("ix0y0;ix99y0;t", "y:h<" + (n - 1) + "?0-1;y:" + steps);
            Edges.due("behind " + n + " as behind " + row[1], sea.round(60, 0), n > 60 ? NONE : n);
            Edges.due("how long", sea.round(60, 1), n > 60 ? NONE : n - row[1]);
            Edges.due("not within one less", sea.round(n - 1, 0), NONE);
            Edges.due("nor how long", sea.round(n - 1, 1), NONE);
            Edges.due("within just so many", sea.round(n, 0), n > 60 ? NONE : n);
        }
        Edges.due("nothing moves", Check.sea("ix0;ix60").round(1, 0), 1);
        Edges.due("nothing moves, how long", Check.sea("ix0;ix60").round(60, 1), 1);
        DriftSea snaps = Check.sea("ix0y0;ix60y0;bl9");
        Edges.due("BRIDGES are not asked", snaps.round(60, 0), 1);
        DriftSea parts = Check.sea("i;i");
        Edges.due("HEADS are", parts.round(1, 0), NONE);
        Edges.due("then it is round", parts.round(2, 0), 2);
        Edges.due("then how long", parts.round(2, 1), 1);
        String still = ";ix0y40m9;ix20y40m9;ix40y40m9;ix60y40m9";
        DriftSea first = Check.sea("ix0y0" + still + ";ix0y99m9;ta0b5", "y:h<7?1;y:0");
        Edges.due("the first of six alone", first.round(60, 0), 8);
        DriftSea last = Check.sea("ix0y0m9" + still + ";ix0y99;ta0b5", "y:h<7?1;y:0");
        Edges.due("the last of six alone", last.round(60, 0), 8);
        DriftSea swings = Check.sea("ix0y0m9" + still + ";ix0y99;ta0b5", "y:h<9?1;y:h<10?0-8;y:0");
        Edges.due("the last of six, back", swings.round(60, 0), 10);
        Edges.due("as behind 1", swings.round(60, 1), 9);
        DriftSea swingsInX = Check.sea("ix0y0" + still + ";ix99y0m9;ta0b5", "y:h<9?1;y:h<10?0-8;y:0");
        Edges.due("the first of six, back", swingsInX.round(60, 0), 10);
        DriftSea sixParts = Check.sea("ix0y0;ix20y0;ix40y0;ix60y0;ix90y90;ix90y90");
        Edges.due("the last of six becomes a part", sixParts.round(60, 0), 2);
        DriftSea inY = Check.sea("ix0y0;ix0y99;t", "y:h=0?1;y:h=1?0-1;y:5");
        Edges.due("y counts", inY.round(60, 0), 2);
    }

    @Says("ONE: behind how many SEASONS (1 .. n) two ISLES are one first; (0: they are one now.)")
    static void one() {
        for (int x : new int[] {1, 2, 59, 60, 61}) {
            DriftSea sea = comesFrom(x);
            Edges.due("from " + x, sea.one(0, 1, 60), x > 60 ? NONE : x);
            Edges.due("from " + x + ", the other way round", sea.one(1, 0, 60), x > 60 ? NONE : x);
            Edges.due("not within one less than " + x, sea.one(0, 1, x - 1), NONE);
            Edges.due("within " + x, sea.one(0, 1, x), x > 60 ? NONE : x);
        }
        DriftSea here = Check.sea("i;i;i");
        Edges.due("at one place they are two yet", here.one(1, 2, 1), 1);
        here.go(1);
        Edges.due("both parts of one", here.one(1, 2, 1), 0);
        Edges.due("a part and its HEAD", here.one(0, 2, 60), 0);
        Edges.due("n 0", here.one(0, 2, 0), NONE);
        Edges.due("n 61", here.one(0, 2, 61), NONE);
    }

    @Says("NEAREST: the least FAR of two within n SEASONS (0, now, too); behind how many first")
    static void nearest() {
        DriftSea sea = comesFrom(80);
        for (int n : new int[] {0, 1, 2, 59, 60}) {
            Edges.due("FAR within " + n, sea.nearest(0, 1, n, 0), 80 - n);
            Edges.due("behind how many, within " + n, sea.nearest(0, 1, n, 1), n);
            Edges.due("the other way round", sea.nearest(1, 0, n, 0), 80 - n);
        }
        DriftSea away = Check.sea("ix0y0;ix9y0;tk1");
        Edges.due("now is nearest", away.nearest(0, 1, 60, 0), 9);
        Edges.due("now", away.nearest(0, 1, 60, 1), 0);
        DriftSea swing = Check.sea(SWING);
        Edges.due("2 again and again", swing.nearest(0, 1, 60, 0), 2);
        Edges.due("first behind 2", swing.nearest(0, 1, 60, 1), 2);
        Edges.due("within 1", swing.nearest(0, 1, 1, 0), 4);
        DriftSea still = Check.sea("ix0;ix60");
        Edges.due("never nearer, first", still.nearest(0, 1, 60, 1), 0);
        DriftSea one = Check.sea("i;i");
        one.go(1);
        Edges.due("of one HEAD", one.nearest(0, 1, 60, 0), 0);
        Edges.due("of one HEAD, now", one.nearest(0, 1, 60, 1), 0);
    }

    @Says("SNAP: behind how many SEASONS (1 .. 60) a BRIDGE has snapped; (0: it does not stand.)")
    static void snap() {
        // isle 1 goes by 1 a SEASON from 10 apart
        int[][] rows = {{1, 1}, {9, 1}, {10, 1}, {11, 2}, {68, 59}, {69, 60}, {70, NONE}, {99, NONE}};
        for (int[] row : rows) {
            DriftSea sea = Check.sea("ix0y0m9;ix10y0;tk1;bl" + row[0]);
            Edges.due("LENGTH " + row[0], sea.snap(0), row[1]);
            Edges.due("it stands", sea.bridge(0, 3), 1);
            sea.go(60);
            Edges.due("as the SEASONS go by", sea.bridge(0, 3), row[1] == NONE ? 1 : 0);
            if (row[1] != NONE) {
                Edges.due("it does not stand", sea.snap(0), 0);
            } else {
                Edges.due("later it does", sea.snap(0), row[0] - 69);
            }
        }
    }

    // ---- ships ----

    @Says("SAIL: .. it goes towards that: so much (SPEED 1 .. 99); Behind how many SEASONS (1 .. 60) it is there")
    static void sail() {
        int[][] rows = {{1, 1, 1}, {59, 1, 59}, {60, 1, 60}, {61, 1, NONE}, {61, 2, 31}, {99, 1, NONE}, {99, 2, 50}, {99, 98, 2},
            {99, 99, 1}, {2, 99, 1}};
        for (int[] row : rows) {
            for (int way = 0; way < 4; way++) {
                String other = way % 2 == 0 ? "x" + row[0] + "y0" : "x0y" + row[0];
                DriftSea sea = Check.sea(way < 2 ? "ix0y0;i" + other : "i" + other + ";ix0y0");
                Edges.due("SPEED " + row[1] + " by " + other, sea.sail(0, 1, row[1], 0), row[2]);
                Edges.due("not overtaken", sea.sail(0, 1, row[1], 1), row[2] == NONE ? NONE : 0);
            }
        }
        DriftSea both = Check.sea("ix0y0;ix3y4");
        int[] behind = {7, 4, 3, 2, 2, 2, 1};
        for (int speed = 1; speed <= 7; speed++) {
            Edges.due("3 and 4 by " + speed, both.sail(0, 1, speed, 0), behind[speed - 1]);
        }
        Edges.due("SPEED 0", both.sail(0, 1, 0, 0), NONE);
        Edges.due("SPEED 100", both.sail(0, 1, 100, 0), NONE);
    }

    @Says("in each SEASON first all ISLES go")
    static void islesGoFirst() {
        DriftSea comes = comesFrom(60);
        Edges.due("59, then 58 by 58", comes.sail(0, 1, 59, 0), 1);
        Edges.due("by its own way alone", comes.sail(0, 1, 59, 1), 0);
        Edges.due("SPEED 58", comes.sail(0, 1, 58, 0), 2);
        DriftSea flees = Check.sea("ix0y0m9;ix10y0;tk1");
        Edges.due("11 by 10", flees.sail(0, 1, 10, 0), 2);
        Edges.due("11 by 11", flees.sail(0, 1, 11, 0), 1);
        Edges.due("it is never there", flees.sail(0, 1, 1, 0), NONE);
    }

    @Says("first in x, then with what is left in y")
    static void firstInX() {
        // behind one SEASON the ship is at (2, 0), not at (0, 2), where the isle goes then
        DriftSea sea = Check.sea("ix0y0;ix2y2;ix50y2m9;ta1b2", "y:h=1?0-2;y:0");
        Edges.due("where it went", sea.ahead(1, 2, 0), 0);
        Edges.due("first in x", sea.sail(0, 1, 2, 0), 3);
        Edges.due("not overtaken", sea.sail(0, 1, 2, 1), 0);
        // with 3 it is at (2, 1) behind one SEASON; the isle comes there
        DriftSea left = Check.sea("ix0y0;ix2y2;ix2y50m9;ta1b2", "y:h=1?0-1;y:0");
        Edges.due("with what is left in y", left.sail(0, 1, 3, 1), 1);
        Edges.due("it came", left.sail(0, 1, 3, 0), 2);
    }

    @Says("whether it was overtaken (the isle came to it by its own way)")
    static void overtaken() {
        DriftSea swing = Check.sea(SWING);
        Edges.due("overtaken", swing.sail(1, 0, 2, 1), 1);
        Edges.due("then", swing.sail(1, 0, 2, 0), 2);
        DriftSea comes = Check.sea("ix0y0;ix9y0;ix99y0m9;ta1b2", "y:0-9");
        Edges.due("it came at once", comes.sail(0, 1, 1, 0), 1);
        Edges.due("by its own way", comes.sail(0, 1, 1, 1), 1);
        DriftSea half = Check.sea("ix0y0;ix9y0;ix99y0m9;ta1b2", "y:0-8");
        Edges.due("one is left to sail", half.sail(0, 1, 1, 0), 1);
        Edges.due("not overtaken", half.sail(0, 1, 1, 1), 0);
        DriftSea here = Check.sea("i;i");
        Edges.due("if it does not lie where the other one is", here.sail(0, 1, 99, 1), 1);
        Edges.due("behind one SEASON", here.sail(0, 1, 99, 0), 1);
        here.go(1);
        Edges.due("a part and its HEAD", here.sail(1, 0, 1, 0), 1);
        Edges.due("the least SPEED is 1, overtaken or not", here.haste(1, 0, 1), 1);
        Edges.due("the least SPEED for what comes", comes.haste(0, 1, 1), 1);
    }

    @Says("HASTE: the least SPEED with which it is there behind no more than n SEASONS")
    static void haste() {
        int[][] rows = {{60, 60, 1}, {60, 59, 2}, {61, 60, 2}, {99, 1, 99}, {99, 2, 50}, {99, 60, 2}, {98, 1, 98}, {1, 1, 1}, {1, 60, 1}};
        for (int[] row : rows) {
            DriftSea sea = Check.sea("ix0y0;ix" + row[0] + "y0");
            Edges.due("by " + row[0] + " within " + row[1], sea.haste(0, 1, row[1]), row[2]);
            Edges.due("the other way round", sea.haste(1, 0, row[1]), row[2]);
        }
        DriftSea far = Check.sea("ix0y0;ix99y1;ix99y99");
        Edges.due("100 in one SEASON", far.haste(0, 1, 1), NONE);
        Edges.due("100 in two", far.haste(0, 1, 2), 50);
        Edges.due("198 in two", far.haste(0, 2, 2), 99);
        Edges.due("198 in one", far.haste(0, 2, 1), NONE);
        // slower ones are overtaken, or meet it, where faster ones do not
        DriftSea swing = Check.sea(SWING);
        for (int n : new int[] {1, 2, 3, 60}) {
            int least = NONE;
            for (int speed = 99; speed >= 1; speed--) {
                int there = swing.sail(0, 1, speed, 0);
                least = there != NONE && there <= n ? speed : least;
            }
            Edges.due("as SAIL tells, within " + n, swing.haste(0, 1, n), least);
        }
    }
}
