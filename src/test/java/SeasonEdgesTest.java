/** What part 2 of the document's terms says of TRADE and of one SEASON: each bound, and the next one outside of it. */
public final class SeasonEdgesTest {
    private static final int NONE = DriftSea.NONE;

    public static void main(String[] args) throws ReflectiveOperationException {
        Edges.runAll(SeasonEdgesTest.class);
    }

    // ---- FAR, HEADS ----

    @Says("FAR of two ISLES: how far apart in x and in y (both without signs), together")
    static void farWithoutSigns() {
        int[][] places = {{55, 57}, {45, 57}, {55, 43}, {45, 43}, {50, 50}, {50, 51}, {49, 50}};
        int[] fars = {12, 12, 12, 12, 0, 1, 1};
        for (int i = 0; i < places.length; i++) {
            DriftSea sea = Check.sea("ix50y50;ix" + places[i][0] + "y" + places[i][1]);
            Edges.due("FAR " + i, sea.far(0, 1), fars[i]);
            Edges.due("FAR " + i + " the other way round", sea.far(1, 0), fars[i]);
        }
        Edges.due("the greatest told", Check.sea("ix0y99;ix99y0").far(0, 1), 198);
        Edges.due("of itself", Check.sea("ix0y99;ix99y0").far(1, 1), 0);
        DriftSea corners = Check.sea("ix50y50;ix51y51;t", "y:0-99");
        corners.go(60);
        Edges.placeIs("corners", corners, 0, -999, -999);
        Edges.placeIs("corners", corners, 1, 999, 999);
        Edges.due("the greatest", corners.far(0, 1), 3996);
        Edges.due("d is FAR", Check.sea("ix0y99;ix99y0;t", "y:d-100").tie(0, 4), 98);
    }

    @Says("(its HEAD; at first itself)")
    static void headAtFirst() {
        DriftSea sea = Check.sea("i;i;i;i;i;i");
        for (int isle = 0; isle < 6; isle++) {
            Edges.due("HEAD of " + isle, Check.isle(sea, isle, 3), isle);
        }
        Edges.due("HEADS", sea.count(1), 6);
        Edges.due("at one place they are no parts yet", sea.far(0, 5), 0);
    }

    @Says("what is said of the place, MASS, FAR, ties, bridges of a part is that of what it is a part of")
    static void partsAreAsHeads() {
        DriftSea sea = Check.sea("wj2;ix0y0m2;ix2y0m3;ix30y0m4;ta1b2w5;ba1b2l29;ba1b2l30;bl1", "y:h=0?0;y:m*10+n-d");
        sea.go(1);
        Edges.placeIs("its place", sea, 1, 0, 0);
        Edges.due("MASS", Check.isle(sea, 1, 2), 5);
        Edges.due("HEAD", Check.isle(sea, 1, 3), 0);
        Edges.due("FAR", sea.far(1, 2), 30);
        Edges.due("FAR of its HEAD", sea.far(1, 0), 0);
        Edges.due("its tie, by MASS of its HEAD", sea.tie(0, 4), 5 * 10 + 4 - 30);
        Edges.due("its tie draws its HEAD", sea.led(0, 0, 0), 24);
        Edges.due("its tie draws it so", sea.led(1, 0, 0), 24);
        Edges.due("it goes as its HEAD", sea.drift(1, 0), 24 / 5);
        Edges.due("a bridge too short from where its HEAD is", sea.bridge(0, 3), 0);
        Edges.due("a bridge just long enough", sea.bridge(1, 3), 1);
        Edges.due("a bridge within one", sea.bridge(2, 3), 1);
        sea.go(1);
        Edges.placeIs("it has gone", sea, 1, 4, 0);
    }

    @Says("a part trades no more")
    static void partsTradeNoMore() {
        String text = "wj0;ix0y0g1n2;ix0y0g2n1q9;ix40y0g1n2;ix60y0g3n2";
        DriftSea sea = Check.sea(text);
        Edges.due("it sells", sea.buys(0, 1), 1);
        Edges.due("it buys", sea.buys(1, 0), 9);
        Edges.due("it lacks nothing", sea.lacks(1), 0);
        Edges.due("it is where most is sold", sea.monopoly(2, 1), 3);
        sea.go(1);
        Edges.due("it sells no more", sea.buys(3, 1), 0);
        Edges.due("it buys no more", sea.buys(1, 2), 0);
        Edges.due("its HEAD does not buy for it", sea.buys(0, 2), 0);
        Edges.due("it pays no more", sea.pays(1), 0);
        Edges.due("it lacks no more", sea.lacks(1), 0);
        Edges.due("others lack what it made", sea.lacks(3), 1);
        Edges.due("nothing is sold", sea.monopoly(2, 0), NONE);
        Edges.due("nobody can buy of it", sea.undercut(1, 3), NONE);
        DriftSea lacking = Check.sea("wj9;ix0;in1q7x5;ig1x90s3");
        Edges.due("it lacks", lacking.lacks(1), 4);
        Edges.due("it pays", lacking.pays(1) > 0, true);
        lacking.go(1);
        Edges.due("a part lacks nothing", lacking.lacks(1), 0);
        Edges.due("a part pays nothing", lacking.pays(1), 0);
        Edges.due("nor does it buy", lacking.buys(1, 2), 0);
        Edges.due("nor is it sold", lacking.monopoly(1, 1), NONE);
    }

    // ---- TRADE ----

    @Says("ISLES that are HEADS with a NEED, by numbers, each buy")
    static void byNumbers() {
        DriftSea sea = Check.sea("ix99y99n1q2;ix0y0n1q2;ix0y0g1s3;ix50n4;ix1y0n1q2");
        Edges.due("the lowest first", sea.buys(0, 2), 2);
        Edges.due("then the next, what is left", sea.buys(1, 2), 1);
        Edges.due("then nothing is left", sea.buys(4, 2), 0);
        Edges.due("it lacks", sea.lacks(1), 1);
        Edges.due("it lacks all", sea.lacks(4), 2);
        Edges.due("without a NEED", sea.buys(3, 2), 0);
        Edges.due("it lacks nothing", sea.lacks(3), 0);
    }

    @Says("of that other HEAD that makes it and has STOCK left")
    static void ofAnother() {
        DriftSea alone = Check.sea("ig1n1q3s99;ig2");
        Edges.due("not of itself", alone.lacks(0), 3);
        Edges.due("nothing is sold", alone.monopoly(1, 0), NONE);
        DriftSea none = Check.sea("in1q3;ig1s0;ig1s1p99;ig2s99p0");
        Edges.due("STOCK 0", none.buys(0, 1), 0);
        Edges.due("STOCK 1", none.buys(0, 2), 1);
        Edges.due("another GOOD", none.buys(0, 3), 0);
        Edges.due("it lacks", none.lacks(0), 2);
        Edges.due("STOCK 99", Check.sea("in1q9;ig1s99").buys(0, 1), 9);
    }

    @Says("for which PRICE and FREIGHT times FAR together are least (of several the lowest)")
    static void leastOfSeveral() {
        String seas = ";ix0y0n1;ix10y0g1p20;ix20y0g1p";
        int[][] rows = {{1, 9, 2}, {1, 10, 1}, {1, 11, 1}, {0, 19, 2}, {0, 20, 1}, {2, 0, 1}, {9, 0, 1}};
        for (int[] row : rows) {
            DriftSea sea = Check.sea("wf" + row[0] + seas + row[1]);
            Edges.due("FREIGHT " + row[0] + ", PRICE " + row[1], sea.monopoly(1, 0), row[2]);
            Edges.due("it pays", sea.pays(0), row[2] == 1 ? 20 + row[0] * 10 : row[1] + row[0] * 20);
        }
        Edges.due("FREIGHT 1 without", Check.sea("ix0y0n1;ix10y0g1p20").pays(0), 30);
        DriftSea most = Check.sea("wf9;ix0y0n1q9;ix99y99g1p99s99");
        Edges.due("the most that is paid", most.pays(0), 9 * (99 + 9 * 198));
        DriftSea least = Check.sea("wf0;ix0y0n1q9;ix99y99g1p0s99");
        Edges.due("nothing is paid", least.pays(0), 0);
        Edges.due("but it buys", least.buys(0, 1), 9);
    }

    @Says("as much as is needed and left, till nothing is needed or left")
    static void neededAndLeft() {
        int[][] rows = {{1, 1, 1, 0, 0}, {2, 1, 1, 1, 0}, {3, 1, 1, 2, 0}, {9, 4, 4, 5, 0}, {9, 3, 3, 5, 1}, {9, 9, 9, 0, 0},
            {8, 9, 8, 0, 0}, {9, 0, 0, 5, 4}};
        for (int[] row : rows) {
            DriftSea sea = Check.sea("wf0;in1q" + row[0] + ";ig1p1s" + row[1] + ";ig1p2s5");
            Edges.due("q" + row[0] + " s" + row[1] + " of the cheaper", sea.buys(0, 1), row[2]);
            Edges.due("q" + row[0] + " s" + row[1] + " of the dearer", sea.buys(0, 2), row[3]);
            Edges.due("q" + row[0] + " s" + row[1] + " lacks", sea.lacks(0), row[4]);
            Edges.due("q" + row[0] + " s" + row[1] + " pays", sea.pays(0), row[2] + 2 * row[3]);
        }
        DriftSea five = Check.sea("in1q9;ig1s1p5;ig1s1p4;ig1s1p3;ig1s1p2;ig1s1p1");
        Edges.due("of all five", five.lacks(0), 4);
        for (int seller = 1; seller <= 5; seller++) {
            Edges.due("of " + seller, five.buys(0, seller), 1);
        }
        Edges.due("pays all five", five.pays(0), 15);
    }

    @Says("STOCK is new in each season")
    static void stockIsNew() {
        DriftSea sea = Check.sea("wr1f0;ix0y0n1q3m9;ix60y0g1s4m9");
        for (int season = 0; season < 4; season++) {
            Edges.due("it buys all it needs", sea.buys(0, 1), 3);
            Edges.due("STOCK", Check.isle(sea, 1, 8), 4);
            sea.go(1);
        }
    }

    // ---- (1) ----

    @Says("each TIE between two HEADS at unlike places has its PULL")
    static void atUnlikePlaces() {
        DriftSea here = Check.sea("i;i;ix51;tw9;ta0b2w9", "y:7+w");
        Edges.due("at one place", here.tie(0, 4), 0);
        Edges.due("one apart", here.tie(1, 4), 16);
        Edges.due("LED at one place", here.led(0, 0, 0), 0);
        Edges.due("LED at one place, y", here.led(1, 0, 1), 0);
        Edges.due("by the other alone", here.drift(0, 0), 16);
        DriftSea part = Check.sea("wj1;ix0y0;ix1y0;ix9y0;t", "y:h=0?0;y:7");
        part.go(1);
        Edges.due("of one HEAD", part.tie(0, 4), 0);
        Edges.due("LED of one HEAD", part.led(0, 0, 0), 0);
        Edges.due("DRIFT of one HEAD", part.drift(1, 0), 0);
    }

    @Says("(none at first: STRENGTH of a bargain, less STRENGTH of a quarrel)")
    static void withoutAPull() {
        for (int strength = 1; strength <= 9; strength++) {
            Edges.due("a bargain", Check.sea("ix0;ix9;tw" + strength).tie(0, 4), strength);
            Edges.due("a quarrel", Check.sea("ix0;ix9;tk1w" + strength).tie(0, 4), -strength);
        }
    }

    @Says("held within -99 .. 99")
    static void pullIsHeld() {
        int[][] rows = {{98, 98}, {99, 99}, {100, 99}, {101, 99}, {9999, 99}};
        for (int[] row : rows) {
            DriftSea sea = Check.sea("ix0y0;ix99y0;ix0y99;t", "y:" + row[0]);
            Edges.due("PULL", sea.tie(0, 4), row[1]);
            sea.go(1);
            Edges.placeIs("drawn by " + row[0], sea, 0, row[1], 0);
            DriftSea less = Check.sea("ix0y0;ix99y0;ix0y99;t", "y:0-" + row[0]);
            Edges.due("PULL", less.tie(0, 4), -row[1]);
            less.go(1);
            Edges.placeIs("drawn by -" + row[0], less, 1, 99 + row[1], 0);
        }
    }

    @Says("m MASS of the first one's HEAD, n of the second one's, h the SEASON")
    static void letters() {
        String text = "ix0y0m2;ix9y4m7;ta1b0w6k1;ta0b1w5";
        String[] pulls = {"y:d", "y:w", "y:k", "y:m", "y:n", "y:h"};
        int[] first = {13, 6, 1, 7, 2, 0};
        int[] second = {13, 5, 0, 2, 7, 0};
        for (int i = 0; i < pulls.length; i++) {
            DriftSea sea = Check.sea(text, pulls[i]);
            Edges.due(pulls[i] + " of the first", sea.tie(0, 4), first[i]);
            Edges.due(pulls[i] + " of the second", sea.tie(1, 4), second[i]);
        }
        DriftSea sea = Check.sea("ix0y0;ix9y0m9;t", "y:h");
        for (int season = 0; season <= 4; season++) {
            Edges.due("h is count(6)", sea.tie(0, 4), sea.count(6));
            sea.go(1);
        }
        Edges.placeIs("by 0, 1, 2, 3, 4", sea, 0, 10, 0);
        sea.undo();
        Edges.due("h is undone", sea.tie(0, 4), 4);
        DriftSea turned = Check.sea("ix0;ix9;t", "y:k+5");
        turned.turn(0);
        Edges.due("k as it is now", turned.tie(0, 4), 6);
    }

    @Says("in x PULL times the second one's x less its own, by FAR, cut towards 0, in y likewise; "
        + "the second one just the other way")
    static void drawnAndCut() {
        // 1 and 2 apart, FAR 3: PULL 4 draws 4/3 and 8/3
        int[][] ways = {{1, 2}, {-1, 2}, {1, -2}, {-1, -2}, {2, 1}, {0, 3}, {3, 0}};
        int[][] cut = {{1, 2}, {-1, 2}, {1, -2}, {-1, -2}, {2, 1}, {0, 4}, {4, 0}};
        for (int i = 0; i < ways.length; i++) {
            for (int kind = 0; kind <= 1; kind++) {
                int sign = kind == 0 ? 1 : -1;
                DriftSea sea = Check.sea("ix50y50;ix" + (50 + ways[i][0]) + "y" + (50 + ways[i][1]) + ";tw4k" + kind);
                for (int axis = 0; axis <= 1; axis++) {
                    Edges.due("LED " + i + " kind " + kind, sea.led(0, 0, axis), sign * cut[i][axis]);
                    Edges.due("LED of the other " + i + " kind " + kind, sea.led(1, 0, axis), -sign * cut[i][axis]);
                }
                sea.go(1);
                Edges.placeIs("the first " + i, sea, 0, 50 + sign * cut[i][0], 50 + sign * cut[i][1]);
                if (sea.count(1) == 2) {
                    Edges.placeIs("the second " + i, sea, 1, 50 + ways[i][0] - sign * cut[i][0], 50 + ways[i][1] - sign * cut[i][1]);
                }
            }
        }
        DriftSea little = Check.sea("ix0y0;ix99y98;t");
        Edges.due("less than one", little.led(0, 0, 0), 0);
        Edges.due("less than one for the other", little.led(1, 0, 1), 0);
    }

    @Says("If trade pulls, each that buys of another is drawn so, as the first one, and who sells as the second one, "
        + "with as much as it buys as PULL")
    static void tradePulls() {
        String isles = ";ix0y0n1q4m1;ix6y3g1m2s9;ix90y90";
        DriftSea off = Check.sea("wr0" + isles);
        Edges.due("trade does not pull", off.drift(0, 0), 0);
        off.go(1);
        Edges.placeIs("trade does not pull", off, 0, 0, 0);
        // 4 times 6 by 9, 4 times 3 by 9
        DriftSea on = Check.sea("wr1" + isles);
        Edges.due("x of who buys", on.drift(0, 0), 2);
        Edges.due("y of who buys", on.drift(0, 1), 1);
        Edges.due("x of who sells", on.drift(1, 0), -1);
        Edges.due("y of who sells, by MASS 2", on.drift(1, 1), 0);
        on.go(1);
        Edges.placeIs("who buys", on, 0, 2, 1);
        Edges.placeIs("who sells", on, 1, 5, 3);
        Edges.placeIs("who does neither", on, 2, 90, 90);
        DriftSea here = Check.sea("wr1;in1q9;ig1;ix60");
        Edges.due("at one place it buys", here.buys(0, 1), 9);
        Edges.due("but is not drawn", here.drift(0, 0), 0);
        Edges.due("it goes by", here.go(1), 1);
        for (int needed = 1; needed <= 9; needed++) {
            DriftSea much = Check.sea("wr1;ix50y0n1q" + needed + ";ix90y0g1");
            Edges.due("who buys " + needed, much.drift(0, 0), needed);
            Edges.due("who sells " + needed, much.drift(1, 0), -needed);
            much.go(1);
            Edges.placeIs("who buys " + needed, much, 0, 50 + needed, 0);
        }
        DriftSea rule = Check.sea("wr1;ix0y0n1q4;ix9y0g1;ta0b1", "y:0");
        Edges.due("PULLS are of TIES alone", rule.drift(0, 0), 4);
        DriftSea both = Check.sea("wr1;ix0y0n1q4;ix20y0g1n0q3");
        Edges.due("each buys of the other", both.drift(0, 0), 7);
        Edges.due("each sells to the other", both.drift(1, 0), -7);
    }

    // ---- (2) ----

    @Says("All at once each HEAD goes by all it is drawn")
    static void allAtOnce() {
        DriftSea chain = Check.sea("ix0y0;ix10y0;ix20y0;tw2;ta1b2w5");
        chain.go(1);
        Edges.placeIs("the first", chain, 0, 2, 0);
        Edges.placeIs("the second", chain, 1, 10 - 2 + 5, 0);
        Edges.placeIs("the third", chain, 2, 15, 0);
        DriftSea twice = Check.sea("ix0y0m2;ix10y0m2;tw1;tw1;ta1b0w3");
        twice.go(1);
        Edges.placeIs("one and one and three by MASS 2", twice, 0, 2, 0);
        // each is cut by itself: 3 times 1 by 2 in x
        DriftSea cut = Check.sea("ix50y50;ix51y51m9;tw3;tw3");
        cut.go(1);
        Edges.placeIs("1 and 1, not 3", cut, 0, 52, 52);
    }

    @Says("in x and in y, each by its MASS, cut towards 0")
    static void byMass() {
        int[][] rows = {{9, 8, 0}, {9, 9, 1}, {9, 17, 1}, {9, 18, 2}, {2, 3, 1}, {2, 4, 2}, {3, 2, 0}, {1, 5, 5}};
        for (int[] row : rows) {
            String text = "ix50y50m" + row[0] + ";ix99y50;t";
            Edges.due("MASS " + row[0] + " by " + row[1], Check.sea(text, "y:" + row[1]).drift(0, 0), row[2]);
            Edges.due("MASS " + row[0] + " by -" + row[1], Check.sea(text, "y:0-" + row[1]).drift(0, 0), -row[2]);
            DriftSea gone = Check.sea(text, "y:0-" + row[1]);
            gone.go(1);
            Edges.placeIs("MASS " + row[0] + " gone by -" + row[1], gone, 0, 50 - row[2], 50);
            DriftSea up = Check.sea("ix50y50m" + row[0] + ";ix50y99;t", "y:0-" + row[1]);
            Edges.due("in y", up.drift(0, 1), -row[2]);
            up.go(1);
            Edges.placeIs("in y gone", up, 0, 50, 50 - row[2]);
        }
    }

    @Says("within -999 .. 999")
    static void withinBounds() {
        // isle 0 is too heavy; isle 1 goes 8 a season, to the bound or as far as it may
        String[] texts = {"ix0y0m9;ix7y0;t", "ix0y0m9;ix9y0;t", "ix0y0m9;ix0y7;t", "ix0y0m9;ix0y9;t",
            "ix99y0m9;ix1y0;t", "ix99y0m9;ix3y0;t", "ix0y99m9;ix0y1;t", "ix0y99m9;ix0y3;t"};
        int[][] ends = {{999, 0}, {999, 0}, {0, 999}, {0, 999}, {-999, 0}, {-999, 0}, {0, -999}, {0, -999}};
        int[] seasons = {124, 124, 124, 124, 125, 126, 125, 126};
        int[] lastStep = {8, 6, 8, 6, 8, 2, 8, 2};
        for (int i = 0; i < texts.length; i++) {
            DriftSea sea = Check.sea(texts[i], "y:0-8");
            Edges.goAll(sea, seasons[i] - 1);
            int axis = i / 2 % 2;
            int sign = i < 4 ? 1 : -1;
            Edges.due(texts[i] + " goes to the bound", sea.drift(1, axis), sign * lastStep[i]);
            sea.go(1);
            Edges.placeIs(texts[i], sea, 1, ends[i][0], ends[i][1]);
            Edges.due(texts[i] + " went", sea.log(0, 2), lastStep[i]);
            Edges.due(texts[i] + " goes no farther", sea.drift(1, axis), 0);
            sea.go(1);
            Edges.placeIs(texts[i] + " still", sea, 1, ends[i][0], ends[i][1]);
            Edges.due(texts[i] + " went nowhere", sea.log(0, 2), 0);
            Edges.due(texts[i] + " rests", sea.rest(0), 0);
        }
    }

    // ---- (3) ----

    @Says("the first one that are no farther than JOIN become one")
    static void noFartherThanJoin() {
        for (int join = 0; join <= 9; join++) {
            int half = join / 2;
            String[] near = {"ix50y50;ix" + (50 + join) + "y50", "ix50y50;ix50y" + (50 - join),
                "ix50y50;ix" + (50 - half) + "y" + (50 + join - half)};
            String[] far = {"ix50y50;ix" + (51 + join) + "y50", "ix50y50;ix50y" + (49 - join),
                "ix50y50;ix" + (50 - half) + "y" + (51 + join - half)};
            for (int i = 0; i < near.length; i++) {
                DriftSea one = Check.sea("wj" + join + ";" + near[i]);
                one.go(1);
                Edges.due("JOIN " + join + " of " + near[i], one.count(1), 1);
                Edges.due("it became a part", one.log(0, 0), 1);
                DriftSea two = Check.sea("wj" + join + ";" + far[i]);
                two.go(1);
                Edges.due("JOIN " + join + " of " + far[i], two.count(1), 2);
                Edges.due("none became a part", two.log(0, 0), 0);
            }
        }
        DriftSea without = Check.sea("i;i");
        without.go(1);
        Edges.due("without JOIN at one place", without.count(1), 1);
        DriftSea apart = Check.sea("i;ix51");
        apart.go(1);
        Edges.due("without JOIN one apart", apart.count(1), 2);
    }

    @Says("Of all pairs of HEADS (the lower, then the other) the first one .. again, as long as there are such")
    static void firstPairFirst() {
        // 1 and 2 are nearest, but 0 and 1 come first; then 2 is too far from where they are
        DriftSea sea = Check.sea("wj2;ix0y0;ix2y0;ix3y0");
        sea.go(1);
        Edges.due("HEADS", sea.count(1), 2);
        Edges.due("HEAD of 1", Check.isle(sea, 1, 3), 0);
        Edges.due("HEAD of 2", Check.isle(sea, 2, 3), 2);
        // the lower counts first: 0 and 3, then 1 and 2 is too late for 3
        sea = Check.sea("wj1;ix0y0;ix9y0;ix8y0;ix1y0;ix2y0");
        sea.go(1);
        int[] heads = {0, 1, 1, 0, 4};
        for (int isle = 0; isle < heads.length; isle++) {
            Edges.due("HEAD of " + isle, Check.isle(sea, isle, 3), heads[isle]);
        }
        Edges.due("two became parts", sea.log(0, 0), 2);
        sea = Check.sea("wj1;ix0y0;ix5y0;ix1y0;ix1y0;ix6y0;ix99");
        sea.go(1);
        int[] then = {0, 1, 0, 0, 1, 5};
        for (int isle = 0; isle < then.length; isle++) {
            Edges.due("HEAD of " + isle + " then", Check.isle(sea, isle, 3), then[isle]);
        }
        Edges.due("three became parts", sea.log(0, 0), 3);
        // it becomes one by one that is first pair only after another: 0 is near 2 alone, and 2 is no HEAD then
        sea = Check.sea("wj9;i;i;i;i;i;i");
        sea.go(1);
        Edges.due("all six", sea.count(1), 1);
        Edges.due("five became parts", sea.log(0, 0), 5);
        sea.go(1);
        Edges.due("none are left", sea.log(0, 0), 0);
    }

    @Says("the higher and all its parts are parts of the lower")
    static void partsOfParts() {
        // 1 and 2, of MASS 2 together, come by 4 a SEASON, and 0 by 1
        DriftSea sea = Check.sea("wj1;ix0y0m9;ix20y0;ix21y0;ta0b1", "y:h=0?0;y:9");
        sea.go(1);
        Edges.due("2 is a part of 1", Check.isle(sea, 2, 3), 1);
        sea.go(3);
        Edges.due("1 is one yet", Check.isle(sea, 1, 3), 1);
        sea.go(1);
        Edges.due("all are of 0", Check.isle(sea, 1, 3), 0);
        Edges.due("its parts, too", Check.isle(sea, 2, 3), 0);
        Edges.due("one HEAD", sea.count(1), 1);
        Edges.due("one became a part", sea.log(0, 0), 1);
        Edges.placeIs("where the lower is", sea, 2, 4, 0);
        Edges.due("MASS of all", Check.isle(sea, 2, 2), 11);
    }

    @Says("MASS together (99 at most; six ISLES of 9 have 54)")
    static void massTogether() {
        DriftSea sea = Check.sea("im9;im9;im9;im9;im9;im9");
        sea.go(1);
        for (int isle = 0; isle < 6; isle++) {
            Edges.due("MASS of " + isle, Check.isle(sea, isle, 2), 54);
        }
        DriftSea heavy = Check.sea("wj1;im9;im9;im9;im9;im9;ix99m9;ta0b5", "y:h=0?0;y:99");
        heavy.go(1);
        Edges.due("45", Check.isle(heavy, 4, 2), 45);
        Edges.due("99 by 45", heavy.drift(0, 0), 2);
        DriftSea two = Check.sea("im1;im1");
        two.go(1);
        Edges.due("the least together", Check.isle(two, 1, 2), 2);
    }

    @Says("it has the SCARS of both, and one more, if the two were more than SCAR farther apart ahead of (2) than they are")
    static void scars() {
        // from 10 to 3 apart: 7 nearer
        int[][] rows = {{1, 1}, {6, 1}, {7, 0}, {8, 0}, {99, 0}};
        for (int[] row : rows) {
            DriftSea sea = Check.sea("wj3c" + row[0] + ";ix0y0m2;ix10y0m3;tw9");
            sea.go(1);
            Edges.due("one HEAD", sea.count(1), 1);
            Edges.due("SCAR " + row[0], Check.isle(sea, 0, 4), row[1]);
            Edges.due("SCAR " + row[0] + " of the part", Check.isle(sea, 1, 4), row[1]);
        }
        // in y, in x and y, with whatever sign: 7 nearer, too
        String[] ways = {"ix0y10m2;ix0y0m3;tw9", "ix0y0m2;ix0y10m3;tw9", "ix10y0m2;ix0y0m3;tw9"};
        for (String way : ways) {
            for (int scar = 6; scar <= 7; scar++) {
                DriftSea sea = Check.sea("wj3c" + scar + ";" + way);
                sea.go(1);
                Edges.due("one HEAD of " + way, sea.count(1), 1);
                Edges.due("SCAR " + scar + " of " + way, Check.isle(sea, 1, 4), scar == 6 ? 1 : 0);
            }
        }
        // 5 and 5 apart: 9 draws 4 and 4 each, so they are from 10 to 6 apart
        String[] across = {"ix0y0;ix5y5;tw9", "ix5y0;ix0y5;tw9", "ix0y5;ix5y0;tw9", "ix5y5;ix0y0;tw9"};
        for (String way : across) {
            for (int scar = 3; scar <= 4; scar++) {
                DriftSea sea = Check.sea("wj6c" + scar + ";" + way);
                sea.go(1);
                Edges.due("one HEAD of " + way, sea.count(1), 1);
                Edges.due("SCAR " + scar + " of " + way, Check.isle(sea, 1, 4), scar == 3 ? 1 : 0);
            }
        }
        // SCAR 10 without: by 9 and 1 nearer, by 10 and 1
        int[][] without = {{9, 0}, {10, 1}};
        for (int[] row : without) {
            DriftSea sea = Check.sea("wj9;ix0y0m9;ix15y0;t", "y:" + row[0]);
            sea.go(1);
            Edges.due("one HEAD by " + row[0], sea.count(1), 1);
            Edges.due("nearer by 1 more than " + row[0], Check.isle(sea, 1, 4), row[1]);
        }
        Edges.due("no SCARS at first", Check.isle(Check.sea("i;i"), 0, 4), 0);
        DriftSea calm = Check.sea("wc1;i;i");
        calm.go(1);
        Edges.due("no nearer than they were", Check.isle(calm, 0, 4), 0);
    }

    @Says("it has the SCARS of both")
    static void scarsOfBoth() {
        // 0 and 1 with a scar, 2 and 3 with a scar; these two come from 40 apart to 20, 10, 6, 4, 2
        String isles = ";ix0y0;ix6y0;ix40y0;ix46y0;ta0b1w3;ta2b3w3;ta0b2";
        String pull = "y:h=0?w*w/3;y:h=1?0;y:d/2";
        Object[][] rows = {{"wj2c2", 7, 2}, {"wj6c2", 5, 3}, {"wj6c4", 5, 2}, {"wj2c1", 7, 3}};
        for (Object[] row : rows) {
            DriftSea sea = Check.sea(row[0] + isles, pull);
            sea.go(1);
            Edges.due("two HEADS", sea.count(1), 2);
            Edges.due("a scar", Check.isle(sea, 0, 4), 1);
            Edges.due("another scar", Check.isle(sea, 3, 4), 1);
            sea.go((Integer) row[1] - 2);
            Edges.due("two yet", sea.count(1), 2);
            sea.go(1);
            Edges.due("one HEAD", sea.count(1), 1);
            for (int isle = 0; isle < 4; isle++) {
                Edges.due("SCARS with " + row[0], Check.isle(sea, isle, 4), (Integer) row[2]);
            }
        }
    }

    // ---- (4) ----

    @Says("Each BRIDGE that stands between two HEADS farther apart than its LENGTH snaps")
    static void bridgesSnap() {
        DriftSea sea = Check.sea("ix0y0;ix10y0;tk1w3;bl15;bl16;bl17;bl16a1b0");
        sea.go(1);
        int[] stands = {0, 1, 1, 1};
        for (int bridge = 0; bridge < 4; bridge++) {
            Edges.due("16 apart, LENGTH " + sea.bridge(bridge, 2), sea.bridge(bridge, 3), stands[bridge]);
        }
        Edges.due("one snapped", sea.log(0, 1), 1);
        sea.go(1);
        Edges.due("all have", sea.bridge(1, 3) + sea.bridge(2, 3) + sea.bridge(3, 3), 0);
        Edges.due("three snapped", sea.log(0, 1), 3);
        sea.go(1);
        Edges.due("none is left", sea.log(0, 1), 0);
        DriftSea near = Check.sea("ix0y0m9;ix20y0;ta1b0w8;bl15");
        Edges.due("it stands till a SEASON goes by", near.bridge(0, 3), 1);
        near.go(1);
        Edges.placeIs("12 apart", near, 1, 12, 0);
        Edges.due("it stands", near.bridge(0, 3), 1);
        DriftSea again = Check.sea("ix0y0m9;ix20y0;ta1b0w4;bl15");
        again.go(1);
        Edges.due("16 apart it snaps", again.bridge(0, 3), 0);
        again.go(1);
        Edges.due("12 apart", again.far(0, 1), 12);
        Edges.due("but it has snapped", again.bridge(0, 3), 0);
        Edges.due("LENGTH stays", again.bridge(0, 2), 15);
        DriftSea one = Check.sea("wj9;ix0y0;ix9y0;bl1");
        one.go(1);
        Edges.due("of one HEAD it stands", one.bridge(0, 3), 1);
        DriftSea longest = Check.sea("ix0y0;ix99y0;ix99y1;bl99;ba0b2l99");
        longest.go(1);
        Edges.due("99 apart", longest.bridge(0, 3), 1);
        Edges.due("100 apart", longest.bridge(1, 3), 0);
    }
}
