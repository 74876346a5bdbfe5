/** What part 3 of the document's terms says of TREATIES, BICKERING, CHARTS: each bound, and the next one outside of it. */
public final class DealsEdgesTest {
    private static final int NONE = DriftSea.NONE;

    public static void main(String[] args) throws ReflectiveOperationException {
        Edges.runAll(DealsEdgesTest.class);
    }

    // ---- TREATY ----

    @Says("TREATY: the fewest pairs of ISLES (each once, three at most), each with one bargain of a STRENGTH more")
    static void fewestPairs() {
        // far 20 + 20: each bargain of 5 by 5 a SEASON
        DriftSea sea = Check.sea("ix0y0;ix20y0;ix40y0");
        int[][] rows = {{999, 0}, {41, 0}, {40, 0}, {39, 1}, {35, 1}, {34, 2}, {30, 2}, {29, 102}, {25, 102}, {24, 10212},
            {20, 10212}, {19, NONE}, {0, NONE}};
        for (int[] row : rows) {
            Edges.due("far " + row[0], sea.treaty(2, row[0], 1, 5), row[1]);
            Edges.due("the other way round " + row[0], sea.treaty(20, row[0], 1, 5), row[1]);
        }
        Edges.due("no TIE is made", sea.count(2), 0);
        // four would do, three do not: each pair draws isle 0 and 5 nearer by its other isle
        DriftSea six = Check.sea("ix0y0;ix9y0;ix18y0;ix27y0;ix36y0;ix45y0");
        int most = 45 - 2 - 1 - 1;
        Edges.due("by three", six.treaty(5, most, 1, 1) != NONE, true);
        Edges.due("not by three", six.treaty(5, most - 1, 1, 1), NONE);
        // of four ISLES there are six pairs: 03 draws by 2, four of them by 1
        DriftSea four = Check.sea("ix0y0;ix9y0;ix18y0;ix27y0");
        Edges.due("of six pairs by three", four.treaty(3, 27 - 4, 1, 1), 10203);
        Edges.due("not by four", four.treaty(3, 27 - 5, 1, 1), NONE);
        DriftSea five = Check.sea("ix0y0;ix9y0;ix18y0;ix27y0;ix36y0");
        Edges.due("of ten pairs by three", five.treaty(4, 36 - 4, 1, 1), 10204);
        Edges.due("not by four of ten", five.treaty(4, 36 - 5, 1, 1), NONE);
        Edges.due("each once: 2 by one pair", six.treaty(5, 43, 1, 1), 5);
        Edges.due("not 4 by the same pair twice", six.treaty(5, 42, 1, 1), 105);
    }

    @Says("(of several the least row: pairs told as 10 times the lower and the other, rising, each two digits; 0: none needed)")
    static void leastRow() {
        DriftSea sea = Check.sea("ix0y0;ix20y0;ix40y0;ix60y0");
        Edges.due("one of 01, 02, 03: the least", sea.treaty(3, 57, 1, 3), 1);
        Edges.due("the one of two ends", sea.treaty(3, 54, 1, 3), 3);
        Edges.due("two of them", sea.treaty(3, 51, 1, 3), 103);
        Edges.due("three of them", sea.treaty(3, 48, 1, 3), 10203);
        Edges.due("none needed", sea.treaty(3, 60, 1, 3), 0);
        Edges.due("of 12, 13, 23", sea.treaty(12, 17, 1, 3), 2);
        Edges.due("two isles that are not 0", Check.sea("ix0y50;ix20y0;ix40y0").treaty(12, 14, 1, 3), 12);
    }

    @Says("(of several the least row): each row of three pairs, where that row alone will do")
    static void eachRowAlone() {
        for (int set = 0; set < 64; set++) {
            if (Integer.bitCount(set) != 3) {
                continue;
            }
            // three are on one line; a bargain of 1 draws nobody to the others, as it is cut in x and in y
            StringBuilder text = new StringBuilder();
            int[] line = new int[3];
            int found = 0;
            for (int isle = 0; isle < 6; isle++) {
                if ((set >> isle & 1) == 1) {
                    text.append(";ix").append(20 + 20 * found).append("y0");
                    line[found++] = isle;
                } else {
                    text.append(";ix").append(1 + 3 * isle).append("y").append(61 + 5 * isle);
                }
            }
            DriftSea sea = Check.sea(text.substring(1));
            int a = line[0];
            int b = line[1];
            int c = line[2];
            int row = (10 * a + b) * 10000 + (10 * a + c) * 100 + 10 * b + c;
            Edges.due("all three of " + row, sea.treaty(10 * a + c, 36, 1, 1), row);
            Edges.due("the other way round", sea.treaty(10 * c + a, 36, 1, 1), row);
            Edges.due("no more", sea.treaty(10 * a + c, 35, 1, 1), NONE);
            Edges.due("two of them", sea.treaty(10 * a + c, 37, 1, 1), (10 * a + b) * 100 + 10 * a + c);
            Edges.due("one of them", sea.treaty(10 * a + c, 38, 1, 1), 10 * a + c);
            Edges.due("either of two", sea.treaty(10 * a + c, 39, 1, 1), 10 * a + b);
            Edges.due("none of them", sea.treaty(10 * a + c, 40, 1, 1), 0);
        }
    }

    @Says("two: 10 times the one and the other")
    static void bothOfTwo() {
        // all fifteen FARS are unlike
        DriftSea sea = Check.sea("ix0y0;ix1y0;ix4y0;ix10y0;ix22y0;ix47y0");
        for (int one = 0; one < 6; one++) {
            for (int other = 0; other < 6; other++) {
                if (one != other) {
                    int two = 10 * one + other;
                    int far = sea.far(one, other);
                    Edges.due("none needed for " + two, sea.treaty(two, far, 1, 1), 0);
                    Edges.due("one needed for " + two, sea.treaty(two, far - 1, 1, 1) != 0, true);
                    Edges.due("just so far are " + two, sea.bicker(two, far, far, 1, 1, 0), 0);
                    Edges.due("a quarrel of " + two, sea.bicker(two, far + 2, far + 2, 1, 1, 0), 2);
                }
            }
        }
    }

    @Says("by which two ISLES are no farther than told behind n (1 .. 20) SEASONS")
    static void behindN() {
        // by 1 a SEASON nearer with one bargain of 1, as isle 0 is too heavy
        DriftSea sea = Check.sea("ix0y0m9;ix60y0");
        for (int n = 1; n <= 20; n++) {
            Edges.due("behind " + n, sea.treaty(1, 60 - n, n, 1), 1);
            Edges.due("nearer behind " + n, sea.treaty(1, 59 - n, n, 1), NONE);
        }
        Edges.due("n 0", sea.treaty(1, 999, 0, 1), NONE);
        Edges.due("n 21", sea.treaty(1, 999, 21, 1), NONE);
        // behind n, not on the way: they are past each other again behind 3
        DriftSea swing = Check.sea("ix0y0;ix10y0m2");
        Edges.due("behind 2", swing.treaty(1, 2, 2, 4), 1);
        Edges.due("behind 3 they are farther", swing.treaty(1, 2, 3, 4), NONE);
        Edges.due("behind 4 again", swing.treaty(1, 2, 4, 4), 1);
        DriftSea quarrel = Check.sea("ix0y0;ix10y0;tk1w2");
        Edges.due("against what is told", quarrel.treaty(1, 10, 3, 2), 1);
        Edges.due("none needed for 22", quarrel.treaty(1, 22, 3, 2), 0);
        Edges.due("21 needs one", quarrel.treaty(1, 21, 3, 2), 1);
    }

    @Says("each with one bargain of a STRENGTH (1 .. 9) more")
    static void strengths() {
        for (int strength = 1; strength <= 9; strength++) {
            DriftSea sea = Check.sea("ix0y0m9;ix60y0");
            int step = strength + (strength == 9 ? 1 : 0);
            Edges.due("STRENGTH " + strength, sea.treaty(1, 60 - step, 1, strength), 1);
            Edges.due("no more by " + strength, sea.treaty(1, 59 - step, 1, strength), NONE);
        }
        // by the PULL that holds: k is 0, w the STRENGTH
        DriftSea rule = Check.sea("ix0y0m9;ix60y0", "y:k=0?w*2;y:0");
        Edges.due("a bargain by the PULL", rule.treaty(1, 54, 1, 3), 1);
        Edges.due("no more", rule.treaty(1, 53, 1, 3), NONE);
        DriftSea first = Check.sea("ix0y0m9;ix60y0m3", "y:m-n");
        Edges.due("the lower is the first one", first.treaty(10, 58, 1, 3), 1);
    }

    @Says("TREATY of parts")
    static void treatyOfParts() {
        DriftSea sea = Check.sea("wj1;ix0y0;ix1y0;ix40y0");
        sea.go(1);
        Edges.due("of one HEAD: none needed", sea.treaty(1, 0, 1, 1), 0);
        Edges.due("a part is as its HEAD: 02 and 12 are two", sea.treaty(12, 40 - 2 - 4, 1, 4), 2);
        Edges.due("each once, both", sea.treaty(12, 40 - 4 - 8, 1, 4), 212);
        Edges.due("01 draws nothing: no three", sea.treaty(12, 40 - 4 - 8 - 1, 1, 4), NONE);
    }

    // ---- BICKER ----

    @Says("BICKER: .. in each of n (1 .. 6) SEASONS have nothing (0), a bargain (1) or a quarrel (2) of a STRENGTH more")
    static void bickerEach() {
        // a bargain of 1 told: a quarrel of 1 in each SEASON holds it up
        DriftSea sea = Check.sea("ix0y0;ix10y0;t");
        int all = 0;
        for (int n = 1; n <= 6; n++) {
            all = all * 10 + 2;
            Edges.due("quarrels in " + n, sea.bicker(1, 10, 10, n, 1, 0), all);
            Edges.due("how many deals in " + n, sea.bicker(1, 10, 10, n, 1, 1), n);
            Edges.due("nothing in " + n, sea.bicker(1, 0, 10, n, 1, 0), 0);
            Edges.due("no deals in " + n, sea.bicker(1, 0, 10, n, 1, 1), 0);
        }
        Edges.due("n 0", sea.bicker(1, 0, 999, 0, 1, 0), NONE);
        Edges.due("n 7", sea.bicker(1, 0, 999, 7, 1, 0), NONE);
        DriftSea quarrel = Check.sea("ix0y0;ix10y0;tk1");
        Edges.due("bargains in six", quarrel.bicker(1, 10, 10, 6, 1, 0), 111111);
        Edges.due("six deals", quarrel.bicker(1, 10, 10, 6, 1, 1), 6);
        Edges.due("no TIE is made", quarrel.count(2), 1);
    }

    @Says("by which behind each they are no nearer and no farther than told")
    static void bickerBetween() {
        DriftSea sea = Check.sea("ix0y0;ix20y0");
        for (int strength = 1; strength <= 9; strength++) {
            int by = 2 * strength;
            Edges.due("a bargain, just so " + strength, sea.bicker(1, 20 - by, 20 - by, 1, strength, 0), 1);
            Edges.due("a quarrel, just so " + strength, sea.bicker(1, 20 + by, 20 + by, 1, strength, 0), 2);
            Edges.due("nothing, just so", sea.bicker(1, 20, 20, 1, strength, 0), 0);
            Edges.due("nearer than a bargain", sea.bicker(1, 0, 19 - by, 1, strength, 0), NONE);
            Edges.due("farther than a quarrel", sea.bicker(1, 21 + by, 999, 1, strength, 0), NONE);
            Edges.due("no farther than 19", sea.bicker(1, 0, 19, 1, strength, 0), 1);
            Edges.due("no nearer than 21", sea.bicker(1, 21, 999, 1, strength, 0), 2);
        }
        Edges.due("behind each: first to 18, and it stays", sea.bicker(1, 18, 18, 3, 1, 0), 100);
        Edges.due("behind each: 22 at once", sea.bicker(1, 21, 23, 6, 1, 0), 200000);
        Edges.due("not behind the last alone", sea.bicker(1, 16, 16, 2, 1, 0), NONE);
        Edges.due("near and far 0", Check.sea("i;i").bicker(1, 0, 0, 6, 9, 0), 0);
        Edges.due("near above far", sea.bicker(1, 21, 20, 1, 1, 0), NONE);
        // the one that is told first is the first one of the deal, where a PULL asks for m and n
        DriftSea rule = Check.sea("ix0y0m9;ix60y0m3", "y:m-n");
        Edges.due("0 first: nearer", rule.bicker(1, 58, 58, 1, 1, 0), 1);
        Edges.due("1 first: farther", rule.bicker(10, 62, 62, 1, 1, 0), 1);
        Edges.due("0 first: not farther", rule.bicker(1, 62, 62, 1, 1, 0), NONE);
    }

    @Says("that with the fewest deals (of several the least as digits, the first SEASON the highest): it; how many deals")
    static void bickerFewest() {
        // told: nearer by 2 a SEASON; to stay no nearer than 18 for two, one quarrel is enough, the later is the less
        DriftSea sea = Check.sea("ix0y0;ix20y0;t");
        Edges.due("02, not 20", sea.bicker(1, 18, 20, 2, 1, 0), 2);
        Edges.due("one deal", sea.bicker(1, 18, 20, 2, 1, 1), 1);
        Edges.due("two of four", sea.bicker(1, 16, 20, 4, 1, 0), 22);
        Edges.due("two deals", sea.bicker(1, 16, 20, 4, 1, 1), 2);
        Edges.due("one of six", sea.bicker(1, 10, 20, 6, 1, 0), 2);
        Edges.due("none of five", sea.bicker(1, 10, 20, 5, 1, 0), 0);
        // a deal is worth something in the third SEASON alone, and nearer or farther is as good
        DriftSea either = Check.sea("ix0y0;ix20y0;tk1w9", "y:w=9&h=2?1;y:w=1&h=2&k=1?0-1;y:w=1&h=2?0-1;y:0");
        Edges.due("a bargain is less than a quarrel", either.bicker(1, 20, 20, 4, 1, 0), 10);
        Edges.due("one deal", either.bicker(1, 20, 20, 4, 1, 1), 1);
        DriftSea still = Check.sea("ix0y0;ix20y0");
        Edges.due("fewer deals ahead of less digits", still.bicker(1, 16, 18, 2, 1, 0), 10);
        Edges.due("one deal", still.bicker(1, 16, 18, 2, 1, 1), 1);
    }

    // ---- CHARTS ----

    @Says("CHART (20 at most): behind so many (1 .. 20) SEASONS from the one when it is asked an ISLE is at x, y")
    static void charts() {
        for (int season = 1; season <= 20; season++) {
            DriftSea sea = Check.sea("ix0y0m9;ix60y0;t");
            Edges.due("CHART", sea.chart(season, 1, 60 - season, 0), 1);
            Edges.due("so with the TIE alone", sea.fits(NONE), 1);
            Edges.due("that set", sea.fits(0), 1);
            sea.chart(season, 1, 60, 0);
            Edges.due("both can't be", sea.fits(NONE), 0);
        }
        DriftSea y = Check.sea("ix0y0m9;ix0y60;t");
        y.chart(3, 1, 0, 57);
        Edges.due("in y", y.fits(0), 1);
        y.chart(3, 1, 1, 57);
        Edges.due("in x not", y.fits(NONE), 0);
        // from the SEASON when FITS is asked, not from the one when it was told
        DriftSea later = Check.sea("ix0y0m9;ix60y0;t", "y:h");
        later.chart(1, 1, 59, 0);
        Edges.due("0 by now", later.fits(NONE), 0);
        later.go(1);
        Edges.due("from SEASON 1", later.fits(NONE), 1);
        Edges.due("with the TIE", later.fits(0), 1);
        later.go(1);
        Edges.due("from SEASON 2", later.fits(NONE), 1);
        Edges.due("without the TIE", later.fits(0), 0);
        later.undo();
        Edges.due("again from SEASON 1", later.fits(0), 1);
        DriftSea bounds = Check.sea("ix50y50;ix51y51;t", "y:0-99");
        bounds.go(60);
        bounds.chart(20, 0, -999, -999);
        bounds.chart(20, 1, 999, 999);
        Edges.due("the bounds", bounds.fits(NONE), 2);
    }

    @Says("FITS: sets of TIES (bits; those told alone, as they are) with which alone all CHARTS are so: how many, the i-th (rising)")
    static void fits() {
        for (int ties = 0; ties <= 8; ties++) {
            DriftSea sea = Check.sea("ix0y0;ix60y0" + ";t".repeat(ties));
            int all = 1 << ties;
            Edges.due("no CHARTS, " + ties + " TIES", sea.fits(NONE), all);
            Edges.due("the first", sea.fits(0), 0);
            Edges.due("the last", sea.fits(all - 1), all - 1);
            Edges.due("no such one", sea.fits(all), NONE);
        }
        DriftSea sea = Check.sea("ix0y0m9;ix60y0;tw1;tw2;tw3;tk1w1");
        sea.chart(1, 1, 57, 0);
        int found = 0;
        for (int set = 0; set < 16; set++) {
            int drawn = (set & 1) + 2 * (set >> 1 & 1) + 3 * (set >> 2 & 1) - (set >> 3 & 1);
            if (drawn == 3) {
                Edges.due("fits(" + found + ")", sea.fits(found), set);
                found++;
            }
        }
        Edges.due("how many", sea.fits(NONE), 3);
        Edges.due("no such one", sea.fits(found), NONE);
        Edges.due("i -2", sea.fits(-2), NONE);
        sea.turn(3);
        Edges.due("as they are: a bargain now", sea.fits(NONE), 3);
        Edges.due("1 and 2", sea.fits(0), 3);
        Edges.due("3", sea.fits(1), 4);
        Edges.due("2 and 1", sea.fits(2), 10);
        Edges.due("TIES stay", sea.tie(2, 4), 3);
    }

    @Says("SECRET: one TIE more (1,000 times the lower ISLE, 100 times the other, 10 times KIND, and STRENGTH 1 .. 3) "
        + "with which all CHARTS are so: how many, the i-th (rising)")
    static void secrets() {
        for (int isles = 2; isles <= 6; isles++) {
            DriftSea sea = Check.sea("i" + ";i".repeat(isles - 1));
            int all = 0;
            for (int lower = 0; lower < isles; lower++) {
                for (int other = lower + 1; other < isles; other++) {
                    for (int kind = 0; kind <= 1; kind++) {
                        for (int strength = 1; strength <= 3; strength++) {
                            Edges.due("secret(" + all + ")", sea.secret(all), 1000 * lower + 100 * other + 10 * kind + strength);
                            all++;
                        }
                    }
                }
            }
            Edges.due("how many of " + isles + " ISLES", sea.secret(NONE), all);
            Edges.due("no such one", sea.secret(all), NONE);
            Edges.due("i -2", sea.secret(-2), NONE);
        }
        int[][] rows = {{59, 101}, {58, 102}, {57, 103}, {61, 111}, {62, 112}, {63, 113}};
        for (int[] row : rows) {
            DriftSea sea = Check.sea("ix0y0m9;ix60y0");
            sea.chart(1, 1, row[0], 0);
            Edges.due("at " + row[0], sea.secret(0), row[1]);
            Edges.due("that alone", sea.secret(NONE), 1);
            Edges.due("no other", sea.secret(1), NONE);
        }
        for (int x : new int[] {56, 60, 64}) {
            DriftSea sea = Check.sea("ix0y0m9;ix60y0");
            sea.chart(1, 1, x, 0);
            Edges.due("at " + x, sea.secret(NONE), 0);
            Edges.due("none", sea.secret(0), NONE);
        }
        DriftSea told = Check.sea("ix0y0m9;ix60y0;tw2");
        told.chart(1, 1, 57, 0);
        Edges.due("one more than those told", told.secret(0), 101);
        Edges.due("no TIE is made", told.count(2), 1);
        DriftSea rule = Check.sea("ix0y0m4;ix60y0m2", "y:m+n*2+w*100*k");
        rule.chart(1, 1, 56, 0);
        Edges.due("the lower is the first, k and w are its own", rule.secret(NONE), 3);
        Edges.due("bargains all", rule.secret(2), 103);
    }
}
