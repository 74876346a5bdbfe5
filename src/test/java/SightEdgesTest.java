/** What part 4 of the document's terms says of who is seen, LANDS, hands and IMAGES: each bound, and the next one outside. */
public final class SightEdgesTest {
    private static final int NONE = DriftSea.NONE;
    /** 0, 3 and 9 in x: FAR 3, 6 and 9. */
    private static final String LINE = "ix0y0;ix3y0;ix9y0";

    public static void main(String[] args) throws ReflectiveOperationException {
        Edges.runAll(SightEdgesTest.class);
    }

    /** Four at one place, behind a SEASON; two others. HEADS are 0, 4 and 5. */
    private static DriftSea withParts() {
        DriftSea sea = Check.sea("ix0y0;ix0y0;ix0y0;ix0y0;ix7y0;ix7y5");
        sea.go(1);
        return sea;
    }

    @Says("SEES: HEADS (bits) other than it no farther than r (0 .. 999) from an ISLE")
    static void sees() {
        DriftSea sea = Check.sea(LINE);
        int[][] rows = {{0, 0, 0}, {0, 2, 0}, {0, 3, 2}, {0, 8, 2}, {0, 9, 6}, {0, 999, 6}, {1, 2, 0}, {1, 3, 1}, {1, 5, 1}, {1, 6, 5},
            {2, 5, 0}, {2, 6, 2}, {2, 8, 2}, {2, 9, 3}};
        for (int[] row : rows) {
            Edges.due("from " + row[0] + ", r " + row[1], sea.sees(row[0], row[1]), row[2]);
        }
        DriftSea parts = withParts();
        Edges.due("HEADS alone", parts.sees(4, 999), 1 | 32);
        Edges.due("a part sees as its HEAD", parts.sees(3, 7), 16);
        Edges.due("a part sees as its HEAD, r 6", parts.sees(3, 6), 0);
        Edges.due("a part, all", parts.sees(2, 12), 16 | 32);
        DriftSea six = Check.sea("i;i;i;i;i;i");
        for (int isle = 0; isle < 6; isle++) {
            Edges.due("all but it at r 0", six.sees(isle, 0), 63 - (1 << isle));
        }
        DriftSea far = Check.sea("ix0y50m9;ix7y50;t", "y:0-8");
        for (int i = 0; i < 3; i++) {
            far.go(60);
        }
        Edges.due("999 apart", far.far(0, 1), 999);
        Edges.due("r 999", far.sees(0, 999), 2);
        Edges.due("r 998", far.sees(0, 998), 0);
    }

    @Says("EVERYWHERE: HEADS (bits) no farther than r from all other HEADS (one alone: it)")
    static void everywhere() {
        DriftSea sea = Check.sea(LINE);
        int[][] rows = {{0, 0}, {5, 0}, {6, 2}, {8, 2}, {9, 7}, {999, 7}};
        for (int[] row : rows) {
            Edges.due("r " + row[0], sea.everywhere(row[0]), row[1]);
        }
        DriftSea parts = withParts();
        Edges.due("HEADS alone, r 6", parts.everywhere(6), 0);
        Edges.due("HEADS alone, r 7", parts.everywhere(7), 16);
        Edges.due("HEADS alone, r 11", parts.everywhere(11), 16);
        Edges.due("HEADS alone, r 12", parts.everywhere(12), 1 | 16 | 32);
        DriftSea one = Check.sea("i;i");
        Edges.due("two at one place", one.everywhere(0), 3);
        one.go(1);
        Edges.due("one alone, r 0", one.everywhere(0), 1);
        Edges.due("one alone, r 999", one.everywhere(999), 1);
    }

    @Says("WHEN: behind how many SEASONS (0 .. n; n 0 .. 60) an ISLE's HEAD is first so")
    static void when() {
        DriftSea sea = Check.sea("ix0y0m9;ix80y0;t");
        for (int n : new int[] {0, 1, 2, 59, 60}) {
            Edges.due("behind " + n, sea.when(0, 80 - n, 60), n);
            Edges.due("behind " + n + ", just so", sea.when(1, 80 - n, n), n);
            Edges.due("not within one less than " + n, sea.when(0, 80 - n, n - 1), NONE);
        }
        Edges.due("not within 60", sea.when(0, 19, 60), NONE);
        Edges.due("n 0 and so", sea.when(0, 80, 0), 0);
        Edges.due("n 0 and not so", sea.when(0, 79, 0), NONE);
        Edges.due("n 61", sea.when(0, 999, 61), NONE);
        DriftSea line = Check.sea(LINE);
        Edges.due("the middle", line.when(1, 6, 0), 0);
        Edges.due("the end", line.when(0, 6, 60), NONE);
        DriftSea swing = Check.sea("ix0y0;ix10y0m2;tw4");
        Edges.due("first of many", swing.when(0, 4, 60), 1);
        DriftSea parts = withParts();
        Edges.due("a part: its HEAD", parts.when(3, 12, 0), 0);
        Edges.due("a part: its HEAD is not", parts.when(3, 11, 0), NONE);
        DriftSea joins = Check.sea("i;i;ix60y50m9");
        Edges.due("the two are one then", joins.when(1, 10, 5), 0);
        joins.go(1);
        Edges.due("then, r 9", joins.when(1, 9, 5), NONE);
        DriftSea one = Check.sea("i;i");
        one.go(1);
        Edges.due("one alone", one.when(1, 0, 0), 0);
        DriftSea far = Check.sea("ix0y50m9;ix7y50;t", "y:0-8");
        for (int i = 0; i < 3; i++) {
            far.go(60);
        }
        Edges.due("r 999", far.when(0, 999, 0), 0);
        Edges.due("r 998", far.when(0, 998, 0), NONE);
    }

    @Says("LANDS: HEADS that are no farther than r from one another, from one to the next, are one LAND: how many LANDS; "
        + "how many HEADS the largest has; the LAND of an ISLE (bits of HEADS)")
    static void lands() {
        DriftSea sea = Check.sea(LINE);
        int[][] rows = {{0, 3, 1, 1, 2, 4}, {2, 3, 1, 1, 2, 4}, {3, 2, 2, 3, 3, 4}, {5, 2, 2, 3, 3, 4}, {6, 1, 3, 7, 7, 7},
            {999, 1, 3, 7, 7, 7}};
        for (int[] row : rows) {
            Edges.due("how many, r " + row[0], sea.lands(row[0], 0), row[1]);
            Edges.due("the largest, r " + row[0], sea.lands(row[0], 1), row[2]);
            for (int isle = 0; isle < 3; isle++) {
                Edges.due("of " + isle + ", r " + row[0], sea.land(isle, row[0]), row[3 + isle]);
            }
        }
        // from one to the next through the highest and back: 0, 5, 1, 4, 2, 3
        DriftSea back = Check.sea("ix0y0;ix20y0;ix40y0;ix50y0;ix30y0;ix10y0");
        Edges.due("all, one by one", back.lands(10, 0), 1);
        Edges.due("all six", back.lands(10, 1), 6);
        Edges.due("from the last", back.land(3, 10), 63);
        Edges.due("from the first", back.land(0, 10), 63);
        Edges.due("r 9", back.lands(9, 0), 6);
        DriftSea two = Check.sea("ix0y0;ix99y99;ix1y0;ix99y98;ix2y0;ix98y99");
        Edges.due("two", two.lands(1, 0), 2);
        Edges.due("three each", two.lands(1, 1), 3);
        Edges.due("of 4", two.land(4, 1), 1 | 4 | 16);
        Edges.due("of 5", two.land(5, 1), 2 | 8 | 32);
        DriftSea parts = withParts();
        Edges.due("bits of HEADS", parts.land(3, 5), 1);
        Edges.due("a part's", parts.land(2, 7), 1 | 16 | 32);
        Edges.due("HEADS are counted", parts.lands(4, 0), 3);
        Edges.due("the largest of HEADS", parts.lands(7, 1), 3);
        DriftSea one = Check.sea("i;i");
        Edges.due("two at one place", one.lands(0, 1), 2);
        one.go(1);
        Edges.due("one alone", one.lands(0, 0), 1);
        Edges.due("one alone is the largest", one.lands(999, 1), 1);
    }

    @Says("WIDE: the greatest FAR of two HEADS; 10 times the lower and the other (of several the least)")
    static void wide() {
        Edges.due("FAR", Check.sea(LINE).wide(0), 9);
        Edges.due("which", Check.sea(LINE).wide(1), 2);
        Edges.due("of two", Check.sea("ix0y0;ix99y99").wide(0), 198);
        Edges.due("which of two", Check.sea("ix0y0;ix99y99").wide(1), 1);
        Edges.due("at one place", Check.sea("i;i;i").wide(0), 0);
        Edges.due("of several the least", Check.sea("i;i;i").wide(1), 1);
        Edges.due("12 and 13 as far", Check.sea("ix30y50;ix0y50;ix60y50;ix60y50").wide(1), 12);
        Edges.due("03 and 12 as far", Check.sea("ix0y50;ix0y50;ix60y50;ix60y50").wide(1), 2);
        Edges.due("45 alone", Check.sea("ix50y50;ix50y50;ix50y50;ix50y50;ix0y50;ix99y50").wide(1), 45);
        DriftSea parts = withParts();
        Edges.due("of HEADS", parts.wide(0), 12);
        Edges.due("which HEADS", parts.wide(1), 5);
        DriftSea corners = Check.sea("ix50y50;ix51y51;t", "y:0-99");
        corners.go(60);
        Edges.due("the greatest", corners.wide(0), 3996);
        DriftSea one = Check.sea("i;i");
        one.go(1);
        Edges.due("one HEAD alone", one.wide(0), NONE);
        Edges.due("one HEAD alone, which", one.wide(1), NONE);
    }

    @Says("By hand: a TIE is of the other KIND, a PRICE is told, STORM, SALT")
    static void byHand() {
        DriftSea sea = Check.sea("ix0;ix60;t;tk1;t;t;t;t;t;tk1");
        for (int tie = 0; tie < 8; tie++) {
            int was = tie == 1 || tie == 7 ? 1 : 0;
            Edges.due("turn " + tie, sea.turn(tie), true);
            for (int other = 0; other < 8; other++) {
                int told = other == 1 || other == 7 ? 1 : 0;
                Edges.due("KIND of " + other, sea.tie(other, 2), other == tie ? 1 - was : told);
            }
            Edges.due("turn back " + tie, sea.turn(tie), true);
            Edges.due("KIND again", sea.tie(tie, 2), was);
        }
        Edges.due("turn(8)", sea.turn(8), false);
        for (int isle = 0; isle <= 1; isle++) {
            Edges.due("it is so", sea.price(isle, 5), false);
            Edges.due("99", sea.price(isle, 99), true);
            Edges.due("99 is so", sea.price(isle, 99), false);
            Edges.due("100", sea.price(isle, 100), false);
            Edges.due("99 still", Check.isle(sea, isle, 9), 99);
            Edges.due("0", sea.price(isle, 0), true);
            Edges.due("0 is so", sea.price(isle, 0), false);
            Edges.due("-1", sea.price(isle, -1), false);
            Edges.due("0 still", Check.isle(sea, isle, 9), 0);
            Edges.due("again", sea.price(isle, 5), true);
        }
        for (int what = 0; what <= 1; what++) {
            Edges.due("0 at first", sea.chance(what, 0), false);
            Edges.due("99", sea.chance(what, 99), true);
            Edges.due("99 is so", sea.chance(what, 99), false);
            Edges.due("100", sea.chance(what, 100), false);
            Edges.due("-1", sea.chance(what, -1), false);
            Edges.due("99 is so still", sea.chance(what, 99), false);
            Edges.due("0 again", sea.chance(what, 0), true);
        }
        Edges.due("a part's PRICE", withParts().price(3, 9), true);
    }

    @Says("An IMAGE keeps places, MASS, HEADS, SCARS, KINDS, PRICES, BRIDGES, the SEASON; BACK: they are so again")
    static void imageKeeps() {
        DriftSea sea = Check.sea("wj3c1;ix0y0m2p7;ix10y0m3p8;ix40y0;ix99y90m9;tw9;ta0b2k1w9;ta3b2;ba0b2l41;ba0b3");
        Edges.due("image", sea.image(), 0);
        long[] was = readAll(sea);
        Edges.due("go", sea.go(3), 3);
        sea.turn(1);
        sea.turn(0);
        sea.price(0, 70);
        sea.price(1, 80);
        Edges.due("they are one", sea.count(1), 3);
        Edges.due("a scar", Check.isle(sea, 0, 4) > 0, true);
        Edges.due("a BRIDGE less", sea.bridge(0, 3), 0);
        Edges.due("back", sea.back(), 0);
        long[] is = readAll(sea);
        for (int i = 0; i < was.length; i++) {
            Edges.due("reading " + i, is[i], was[i]);
        }
        Edges.due("back again", sea.back(), 0);
    }

    private static long[] readAll(DriftSea sea) {
        long[] all = new long[60];
        int at = 0;
        for (int isle = 0; isle < sea.count(0); isle++) {
            for (int what : new int[] {0, 1, 2, 3, 4, 9}) {
                all[at++] = Check.isle(sea, isle, what);
            }
        }
        for (int tie = 0; tie < sea.count(2); tie++) {
            all[at++] = sea.tie(tie, 2);
        }
        for (int bridge = 0; bridge < sea.count(3); bridge++) {
            all[at++] = sea.bridge(bridge, 3);
        }
        all[at++] = sea.count(1);
        all[at++] = sea.count(6);
        return all;
    }

    @Says("(no SEASON can be UNDONE then; what is put by stays)")
    static void behindBack() {
        DriftSea sea = Check.sea("ix0y0m9;ix60y0;t");
        sea.go(2);
        sea.image();
        sea.go(3);
        Edges.due("five", sea.count(13), 5);
        Edges.due("back", sea.back(), 2);
        Edges.due("none can be UNDONE", sea.count(13), 0);
        Edges.due("undo", sea.undo(), NONE);
        Edges.due("five are put by", sea.count(14), 5);
        Edges.due("the first of them", sea.log(4, 2), 1);
        Edges.due("one more", sea.go(1), 3);
        Edges.due("six are put by", sea.count(14), 6);
        Edges.due("one can be UNDONE", sea.undo(), 2);
        Edges.due("five again", sea.count(14), 5);
        Edges.due("no more", sea.undo(), NONE);
        sea.go(60);
        sea.go(30);
        Edges.due("30 can be", sea.count(13), 30);
        sea.back();
        Edges.due("none can be", sea.count(13), 0);
        Edges.due("60 stay", sea.count(14), 60);
        sea.go(31);
        Edges.due("30 of 31", sea.count(13), 30);
        for (int i = 1; i <= 30; i++) {
            Edges.due("undo " + i, sea.undo(), 33 - i);
        }
        Edges.due("and no more", sea.undo(), NONE);
        Edges.due("30 are put by", sea.count(14), 30);
    }

    @Says("An IMAGE (instead of the one ahead): the SEASON; NONE: no IMAGE of this SEA")
    static void oneImage() {
        DriftSea sea = Check.sea("ix0y0m9;ix60y0;t");
        Edges.due("none yet", sea.back(), NONE);
        Edges.due("of SEASON 0", sea.image(), 0);
        sea.go(5);
        Edges.due("of SEASON 5", sea.image(), 5);
        sea.go(5);
        Edges.due("to 5", sea.back(), 5);
        Edges.due("where it was then", Check.isle(sea, 1, 0), 55);
        sea.undo();
        Check.tape(sea, "i;iz");
        Edges.due("a FAULT", sea.text(0), NONE);
        Edges.due("the IMAGE stays", sea.back(), 5);
        Check.tape(sea, "ix0y0m9;ix60y0;t");
        Edges.due("the same TEXT is another SEA", sea.text(0), 2);
        Edges.due("no IMAGE of it", sea.back(), NONE);
        Edges.due("SEASON 0", sea.count(6), 0);
        Edges.due("one of it", sea.image(), 0);
        Edges.due("back", sea.back(), 0);
        DriftSea kept = Check.sea("ix0y0m9;ix60y0;t");
        kept.go(3);
        kept.image();
        kept.undo();
        kept.undo();
        Edges.due("the IMAGE is not UNDONE", kept.back(), 3);
        Edges.due("where it was", Check.isle(kept, 1, 0), 57);
    }

    @Says("count: 0 ISLES .. 14 those put by (8 .. 11: 0 without a SEA). HIDDEN for others")
    static void counts() {
        DriftSea sea = new DriftSea();
        for (int what = 0; what <= 14; what++) {
            Edges.due("without a SEA, count(" + what + ")", sea.count(what), what == 7 ? NONE : 0);
        }
        for (int what : new int[] {Edges.LEAST, -1000, -2, -1, 15, 16, 1000, Edges.MOST}) {
            Edges.due("count(" + what + ")", sea.count(what), DriftSea.HIDDEN);
        }
        sea = Check.sea("wf0j9r0c99;i;ix0;iy0;ix99;t;t;tk1;b;b");
        int[] want = {4, 4, 3, 2, 0, 0, 0, NONE, 0, 9, 0, 99, 0, 0, 0};
        for (int what = 0; what <= 14; what++) {
            Edges.due("count(" + what + ")", sea.count(what), want[what]);
        }
        Check.rule(sea, "y:0");
        Check.rule(sea, "y:0");
        sea.pull(0);
        sea.chart(1, 0, 0, 0);
        sea.chart(1, 0, 0, 0);
        sea.go(33);
        sea.feed(1, 1, 1, 0, 0);
        int[] then = {4, 4, 3, 2, 2, 3, 33, 0, 0, 9, 0, 99, 2, 30, 33};
        for (int what = 0; what <= 14; what++) {
            Edges.due("then count(" + what + ")", sea.count(what), then[what]);
        }
        Check.tape(sea, "i;i");
        sea.text(0);
        int[] another = {2, 2, 0, 0, 2, 0, 0, 0, 1, 0, 0, 10, 0, 0, 0};
        for (int what = 0; what <= 14; what++) {
            Edges.due("of another SEA, count(" + what + ")", sea.count(what), another[what]);
        }
    }
}
