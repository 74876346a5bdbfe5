/** What part 2 of the document's terms says of SEASONS that go by, YEARS, what is undone and put by: each bound. */
public final class YearsEdgesTest {
    private static final int NONE = DriftSea.NONE;

    public static void main(String[] args) throws ReflectiveOperationException {
        Edges.runAll(YearsEdgesTest.class);
    }

    // ---- SEASONS go by ----

    @Says("SEASONS (1 .. 60) go by: the SEASON")
    static void seasonsGoBy() {
        DriftSea sea = Check.sea("ix0y0;ix99y0m9;t");
        Edges.due("go(1)", sea.go(1), 1);
        Edges.due("go(60)", sea.go(60), 61);
        Edges.placeIs("61 SEASONS", sea, 0, 61, 0);
        Edges.due("years(1)", sea.years(1, 0L), 62);
        Edges.due("years(60)", sea.years(60, 0L), 122);
        Edges.due("count(6)", sea.count(6), 122);
        DriftSea whole = Check.sea("ix0y0;ix99y0m9;t", "y:0");
        for (int i = 1; i <= 100; i++) {
            Edges.due("no last SEASON", whole.go(60), 60 * i);
        }
        Check.rule(whole, "y:h/100");
        whole.pull(1);
        Edges.due("h then", whole.tie(0, 4), 60);
    }

    @Says("x, at first the seed, becomes x times .. and .. (64 bits, going round); a draw of k: "
        + "(x shifted right by 33, without sign) modulo k")
    static void drawsOfSeeds() {
        long[] seeds = {0, 1, -1, 2, -2, 99, Long.MAX_VALUE, Long.MIN_VALUE, Long.MAX_VALUE - 1, Long.MIN_VALUE + 1,
            Integer.MAX_VALUE, Integer.MIN_VALUE, 1L << 32, 1L << 33, -(1L << 33), 0x5555555555555555L, 0xAAAAAAAAAAAAAAAAL};
        boolean high = false;
        boolean low = false;
        for (long seed : seeds) {
            DriftSea sea = Check.sea("ix10y10;ix30y40;ix70y20;ix90y80;t;t;t", "y:0");
            sea.chance(0, 99);
            sea.chance(1, 99);
            int[][] want = {{10, 10}, {30, 40}, {70, 20}, {90, 80}};
            int[] kinds = new int[3];
            Draws draws = new Draws(seed);
            for (int season = 0; season < 8; season++) {
                int ahead = draws.of(100);
                high |= draws.wasHigh();
                low |= !draws.wasHigh();
                if (ahead < 99) {
                    int head = draws.of(4);
                    want[head][0] += draws.of(19) - 9;
                    want[head][1] += draws.of(19) - 9;
                }
                if (draws.of(100) < 99) {
                    kinds[draws.of(3)] ^= 1;
                }
            }
            Edges.due("years(8, " + seed + ")", sea.years(8, seed), 8);
            for (int isle = 0; isle < 4; isle++) {
                Edges.placeIs("seed " + seed, sea, isle, want[isle][0], want[isle][1]);
            }
            for (int tie = 0; tie < 3; tie++) {
                Edges.due("seed " + seed + " KIND of " + tie, sea.tie(tie, 2), kinds[tie]);
            }
        }
        Edges.due("an x with its highest bit and one without", high && low, true);
    }

    /** The least seed whose first draw of 100 is this. */
    private static long seedOf(int first) {
        for (long seed = 0; seed < 100000; seed++) {
            if (new Draws(seed).of(100) == first) {
                return seed;
            }
        }
        return -1;
    }

    @Says("a draw of 100 below STORM (0 .. 99; 0 at first)")
    static void belowStorm() {
        for (int first : new int[] {0, 1, 49, 50, 97, 98, 99}) {
            long seed = seedOf(first);
            Draws draws = new Draws(seed);
            draws.of(100);
            int head = draws.of(2);
            int x = draws.of(19) - 9;
            int y = draws.of(19) - 9;
            for (int storm : new int[] {0, first, first + 1, 99}) {
                if (storm > 99) {
                    continue;
                }
                DriftSea sea = Check.sea("ix20y20;ix70y70", "y:0");
                sea.chance(0, storm);
                sea.years(1, seed);
                boolean struck = first < storm;
                for (int isle = 0; isle < 2; isle++) {
                    int at = isle == 0 ? 20 : 70;
                    boolean tossed = struck && isle == head;
                    Edges.placeIs("draw " + first + ", STORM " + storm, sea, isle, at + (tossed ? x : 0), at + (tossed ? y : 0));
                }
                Edges.due("not put by", sea.log(0, 2), 0);
            }
        }
    }

    /** A seed whose second draw, of 100, is this (the first one is no storm). */
    private static long seedOfSecond(int second) {
        for (long seed = 0; seed < 100000; seed++) {
            Draws draws = new Draws(seed);
            draws.of(100);
            if (draws.of(100) == second) {
                return seed;
            }
        }
        return -1;
    }

    @Says("then a draw of 100 below SALT (0 .. 99; 0): if there are TIES, a draw of how many: that one becomes of the other KIND")
    static void belowSalt() {
        for (int second : new int[] {0, 1, 49, 50, 97, 98, 99}) {
            long seed = seedOfSecond(second);
            Draws draws = new Draws(seed);
            draws.of(100);
            draws.of(100);
            int tie = draws.of(3);
            for (int salt : new int[] {0, second, second + 1, 99}) {
                if (salt > 99) {
                    continue;
                }
                DriftSea sea = Check.sea("ix20y20;ix70y70;t;tk1;t", "y:0");
                sea.chance(1, salt);
                sea.years(1, seed);
                for (int i = 0; i < 3; i++) {
                    int was = i == 1 ? 1 : 0;
                    boolean turned = second < salt && i == tie;
                    Edges.due("draw " + second + ", SALT " + salt, sea.tie(i, 2), turned ? 1 - was : was);
                }
            }
        }
        // ahead of (1): the TIE that is turned draws as what it became
        DriftSea one = Check.sea("ix20y50;ix70y50;tw5");
        one.chance(1, 99);
        one.years(1, seedOfSecond(0));
        Edges.due("KIND", one.tie(0, 2), 1);
        Edges.placeIs("a quarrel in the same SEASON", one, 0, 15, 50);
    }

    @Says("if there are TIES (none: nothing is drawn for it)")
    static void saltWithoutTies() {
        long[] seeds = {3, 4, 5, -77};
        for (long seed : seeds) {
            DriftSea sea = Check.sea("ix20y20;ix70y70");
            sea.chance(0, 60);
            sea.chance(1, 99);
            int[][] want = {{20, 20}, {70, 70}};
            Draws draws = new Draws(seed);
            for (int season = 0; season < 6; season++) {
                if (draws.of(100) < 60) {
                    int head = draws.of(2);
                    want[head][0] += draws.of(19) - 9;
                    want[head][1] += draws.of(19) - 9;
                }
                draws.of(100);
            }
            Edges.due("years", sea.years(6, seed), 6);
            Edges.placeIs("seed " + seed, sea, 0, want[0][0], want[0][1]);
            Edges.placeIs("seed " + seed, sea, 1, want[1][0], want[1][1]);
        }
    }

    @Says("a draw of how many HEADS there are: that one (by numbers)")
    static void stormOfHeads() {
        for (long seed = 0; seed < 12; seed++) {
            DriftSea sea = Check.sea("wj0;ix10y10;ix10y10;ix40y40;ix40y40;ix80y80");
            sea.go(1);
            Edges.due("HEADS 0, 2, 4", sea.count(1), 3);
            sea.chance(0, 99);
            Draws draws = new Draws(seed);
            if (draws.of(100) >= 99) {
                continue;
            }
            int head = new int[] {0, 2, 4}[draws.of(3)];
            long x = Check.isle(sea, head, 0) + draws.of(19) - 9;
            long y = Check.isle(sea, head, 1) + draws.of(19) - 9;
            sea.years(1, seed);
            Edges.placeIs("seed " + seed, sea, head, x, y);
        }
        DriftSea one = Check.sea("i;i");
        one.go(1);
        one.chance(0, 99);
        long seed = seedOf(3);
        Draws draws = new Draws(seed);
        draws.of(100);
        draws.of(1);
        int x = 50 + draws.of(19) - 9;
        int y = 50 + draws.of(19) - 9;
        one.years(1, seed);
        Edges.placeIs("a draw of 1", one, 1, x, y);
    }

    @Says("goes by a draw of 19 less 9 in x, then likewise in y (within bounds)")
    static void tossedBy() {
        boolean[] seenX = new boolean[19];
        boolean[] seenY = new boolean[19];
        for (long seed = 0; seed < 300; seed++) {
            Draws draws = new Draws(seed);
            if (draws.of(100) >= 99) {
                continue;
            }
            int head = draws.of(2);
            int x = draws.of(19);
            int y = draws.of(19);
            if (seenX[x] && seenY[y]) {
                continue;
            }
            seenX[x] = true;
            seenY[y] = true;
            DriftSea sea = Check.sea("ix10y20;ix60y70");
            sea.chance(0, 99);
            sea.years(1, seed);
            Edges.placeIs("by " + (x - 9) + ", " + (y - 9), sea, head, (head == 0 ? 10 : 60) + x - 9, (head == 0 ? 20 : 70) + y - 9);
            Edges.placeIs("the other stays", sea, 1 - head, head == 0 ? 60 : 10, head == 0 ? 70 : 20);
        }
        for (int i = 0; i < 19; i++) {
            Edges.due("a draw of " + i, seenX[i] && seenY[i], true);
        }
        // at the corners they can't be tossed farther
        for (long seed = 0; seed < 60; seed++) {
            Draws draws = new Draws(seed);
            if (draws.of(100) >= 99) {
                continue;
            }
            DriftSea sea = Check.sea("ix50y50;ix51y51;t", "y:0-99");
            sea.go(60);
            Check.rule(sea, "y:0");
            sea.pull(1);
            sea.chance(0, 99);
            int head = draws.of(2);
            int x = draws.of(19) - 9;
            int y = draws.of(19) - 9;
            sea.years(1, seed);
            int wantX = head == 0 ? Math.max(-999, -999 + x) : Math.min(999, 999 + x);
            int wantY = head == 0 ? Math.max(-999, -999 + y) : Math.min(999, 999 + y);
            Edges.placeIs("at the corner, seed " + seed, sea, head, wantX, wantY);
        }
    }

    @Says("in these (YEARS), ahead of (1)")
    static void byHandNoStorms() {
        DriftSea hand = Check.sea("ix20y20;ix70y70;t");
        hand.chance(0, 99);
        hand.chance(1, 99);
        hand.go(5);
        DriftSea calm = Check.sea("ix20y20;ix70y70;t");
        calm.go(5);
        Edges.placeIs("by hand", hand, 0, Check.isle(calm, 0, 0), Check.isle(calm, 0, 1));
        Edges.due("KIND by hand", hand.tie(0, 2), 0);
        calm = Check.sea("ix20y20;ix70y70;t");
        calm.years(5, 12345L);
        Edges.placeIs("YEARS without STORM and SALT", hand, 1, Check.isle(calm, 1, 0), Check.isle(calm, 1, 1));
        // the storm is no part of how far they were ahead of (2): no scar by it
        for (long seed = 0; seed < 40; seed++) {
            Draws draws = new Draws(seed);
            if (draws.of(100) >= 99) {
                continue;
            }
            DriftSea sea = Check.sea("wj9c1;ix50y50;ix55y50");
            sea.chance(0, 99);
            sea.years(1, seed);
            Edges.due("no scar by a storm, seed " + seed, Check.isle(sea, 0, 4), 0);
            Edges.due("no way by a storm, seed " + seed, sea.log(0, 2), 0);
        }
    }

    // ---- undone, put by ----

    @Says("The latest 30 SEASONS can be UNDONE one by one")
    static void thirtyUndone() {
        for (int seasons : new int[] {1, 29, 30, 31, 59, 60, 61, 90, 91}) {
            DriftSea sea = Check.sea("ix0y0m1;ix99y0m9;t");
            Edges.goAll(sea, seasons);
            int can = Math.min(30, seasons);
            Edges.due("count(13) of " + seasons, sea.count(13), can);
            for (int i = 1; i <= can; i++) {
                Edges.due("undo " + i + " of " + seasons, sea.undo(), seasons - i);
                Edges.due("count(13)", sea.count(13), can - i);
                Edges.due("x", Check.isle(sea, 0, 0), placeBehind(seasons - i));
            }
            Edges.due("none more of " + seasons, sea.undo(), NONE);
            Edges.due("it stays", sea.count(6), seasons - can);
        }
    }

    /** Isle 0 goes 1 a season till it is past 99, then swings. */
    private static int placeBehind(int season) {
        DriftSea sea = Check.sea("ix0y0m1;ix99y0m9;t");
        return season == 0 ? 0 : sea.ahead(0, Math.min(season, 60), 0)
            + (season > 60 ? stepsPast60(season) : 0);
    }

    private static int stepsPast60(int season) {
        int x = 60;
        for (int i = 60; i < season; i++) {
            x += x < 99 ? 1 : -1;
        }
        return x - 60;
    }

    @Says("The latest 30 SEASONS can be UNDONE (gone by again, they are undone again)")
    static void undoneAndGoneBy() {
        DriftSea sea = Check.sea("ix0y0m1;ix99y0m9;t");
        int season = 0;
        int can = 0;
        for (int round = 0; round < 9; round++) {
            sea.go(7 + round);
            season += 7 + round;
            can = Math.min(30, can + 7 + round);
            for (int i = 0; i < 4 + round % 3; i++) {
                season--;
                can--;
                Edges.due("undo in round " + round, sea.undo(), season);
                Edges.due("count(13)", sea.count(13), can);
                Edges.due("x", Check.isle(sea, 0, 0), season <= 99 ? season : 99 - (season - 99) % 2);
            }
        }
        for (; can > 0; can--) {
            season--;
            Edges.due("at last", sea.undo(), season);
            Edges.due("x at last", Check.isle(sea, 0, 0), season <= 99 ? season : 99 - (season - 99) % 2);
        }
        Edges.due("none", sea.undo(), NONE);
    }

    @Says("UNDONE .. (KINDS, too, as they were ahead of it)")
    static void undoneKinds() {
        DriftSea sea = Check.sea("ix0;ix60;t;tk1;t", "y:0");
        sea.turn(0);
        sea.go(1);
        sea.turn(1);
        sea.turn(2);
        sea.go(1);
        sea.turn(0);
        Edges.due("undo", sea.undo(), 1);
        Edges.due("KIND 0 as ahead of the second", sea.tie(0, 2), 1);
        Edges.due("KIND 1", sea.tie(1, 2), 0);
        Edges.due("KIND 2", sea.tie(2, 2), 1);
        Edges.due("undo", sea.undo(), 0);
        Edges.due("KIND 0 as ahead of the first", sea.tie(0, 2), 1);
        Edges.due("KIND 1", sea.tie(1, 2), 1);
        Edges.due("KIND 2", sea.tie(2, 2), 0);
        sea.chance(1, 99);
        sea.years(9, 5L);
        for (int i = 0; i < 9; i++) {
            sea.undo();
        }
        Edges.due("SALT undone, 0", sea.tie(0, 2), 1);
        Edges.due("SALT undone, 1", sea.tie(1, 2), 1);
        Edges.due("SALT undone, 2", sea.tie(2, 2), 0);
    }

    @Says("The latest SEASON is UNDONE (what is put by of it is gone): the SEASON")
    static void undoneAll() {
        DriftSea sea = Check.sea("wj3c1;ix0y0m2;ix10y0m3;ix40y0;tw9;ta0b2k1w9;ba0b2l41");
        sea.chance(0, 99);
        sea.years(1, 2L);
        sea.price(0, 77);
        Edges.due("undo", sea.undo(), 0);
        int[][] want = {{0, 0, 2, 0, 0}, {10, 0, 3, 1, 0}, {40, 0, 1, 2, 0}};
        for (int isle = 0; isle < 3; isle++) {
            for (int what = 0; what <= 4; what++) {
                Edges.due("isle(" + isle + ", " + what + ")", Check.isle(sea, isle, what), want[isle][what]);
            }
        }
        Edges.due("BRIDGES", sea.bridge(0, 3), 1);
        Edges.due("HEADS", sea.count(1), 3);
        Edges.due("PRICE as told", Check.isle(sea, 0, 9), 77);
        Edges.due("STORM as told", sea.chance(0, 99), false);
        Edges.due("put by", sea.count(14), 0);
        Edges.due("log", sea.log(0, 0), NONE);
    }

    @Says("Put by are the latest 60")
    static void sixtyPutBy() {
        // each SEASON is put by with another way: how far is h
        for (int seasons : new int[] {1, 59, 60, 61, 62, 90}) {
            DriftSea sea = Check.sea("ix0y0m1;ix99y0m9;t", "y:h<90?h-h/9*9;y:0");
            Edges.goAll(sea, seasons);
            int many = Math.min(60, seasons);
            Edges.due("count(14) of " + seasons, sea.count(14), many);
            for (int i = 0; i < many; i++) {
                int h = seasons - 1 - i;
                Edges.due("log(" + i + ") of " + seasons, sea.log(i, 2), h < 90 ? h % 9 : 0);
            }
            Edges.due("no more of " + seasons, sea.log(many, 2), NONE);
            sea.undo();
            Edges.due("one less of " + seasons, sea.count(14), many - 1);
            Edges.due("the one ahead of it", sea.log(0, 2), seasons > 1 ? (seasons - 2) % 9 : NONE);
            Edges.due("none behind it", sea.log(many - 1, 2), NONE);
            sea.go(1);
            Edges.due("again", sea.count(14), many);
            Edges.due("the latest", sea.log(0, 2), (seasons - 1) % 9);
        }
    }

    @Says("Put by ..: how many became parts, how many BRIDGES snapped, how far all HEADS went together in (2) (FAR of both places)")
    static void putByWhat() {
        // 3 and 4 go from 30 apart to 42, then 54
        DriftSea sea = Check.sea("wj5;ix10y10;ix11y11;ix13y12;ix90y90m2;ix60y90;ta3b4k1w8;ba3b4l40;ba3b4l41;ba3b4l42;bl1");
        sea.go(1);
        Edges.due("two became parts", sea.log(0, 0), 2);
        Edges.due("two snapped", sea.log(0, 1), 2);
        Edges.due("4 and 8", sea.log(0, 2), 12);
        sea.go(1);
        Edges.due("none became a part", sea.log(0, 0), 0);
        Edges.due("one snapped", sea.log(0, 1), 1);
        Edges.due("the one ahead", sea.log(1, 0), 2);
        // in x and y both, without signs
        DriftSea way = Check.sea("ix50y50;ix60y40;tw8;ta1b0w4");
        way.go(1);
        Edges.due("6 and 6 each", way.log(0, 2), 24);
    }
}
