/** Each promise by hand: ordinary inputs, the edges that the document names, wrong inputs. */
public final class PromisesTest {
    private static final int NONE = DriftSea.NONE;
    private static final int HIDDEN = DriftSea.HIDDEN;
    /** Isle 0 is at 0, 4, 8, 4 .. in x, isle 1 at 10, 8, 6, 8 .. */
    private static final String SWING = "ix0y0;ix10y0m2;tw4";
    private static final String LINE = "ix0y0;ix3y0;ix9y0";
    private static final Check CHECK = new Check();

    public static void main(String[] args) {
        newObject();
        tape();
        seaFaults();
        pullFaults();
        texts();
        isles();
        tiesAndBridges();
        worths();
        byHand();
        seasons();
        joins();
        years();
        undone();
        putBy();
        draws();
        trade();
        undercut();
        forecasts();
        ships();
        treaties();
        bickering();
        charts();
        seen();
        images();
        counts();
        CHECK.close("PromisesTest");
    }

    private static void due(String call, long got, long want) {
        CHECK.due(call, got, want);
    }

    private static void due(String call, boolean got, boolean want) {
        CHECK.due(call, got, want);
    }

    // 1, and what every call answers without a SEA
    private static void newObject() {
        DriftSea s = new DriftSea();
        for (int what = 0; what <= 14; what++) {
            due("1 count(" + what + ")", s.count(what), what == 7 ? NONE : 0);
        }
        due("1 isle", Check.isle(s, 0, 0), Check.THROWN);
        due("1 tie", s.tie(0, 0), HIDDEN);
        due("1 bridge", s.bridge(0, 0), NONE);
        due("1 far", s.far(0, 0), NONE);
        due("1 turn", s.turn(0), false);
        due("1 price", s.price(0, 1), false);
        due("1 go", s.go(1), NONE);
        due("1 years", s.years(1, 1L), NONE);
        due("1 undo", s.undo(), NONE);
        due("1 log", s.log(0, 0), NONE);
        due("1 led", s.led(0, 0, 0), HIDDEN);
        due("1 drift", s.drift(0, 0), HIDDEN);
        due("1 buys", s.buys(0, 1), NONE);
        due("1 pays", s.pays(0), NONE);
        due("1 lacks", s.lacks(0), NONE);
        due("1 monopoly", s.monopoly(0, 0), NONE);
        due("1 undercut", s.undercut(0, 1), NONE);
        due("1 ahead", s.ahead(0, 1, 0), HIDDEN);
        due("1 rest", s.rest(0), NONE);
        due("1 round", s.round(1, 0), NONE);
        due("1 one", s.one(0, 1, 1), NONE);
        due("1 nearest", s.nearest(0, 1, 0, 0), NONE);
        due("1 snap", s.snap(0), NONE);
        due("1 sail", s.sail(0, 1, 1, 0), NONE);
        due("1 haste", s.haste(0, 1, 1), NONE);
        due("1 treaty", s.treaty(1, 0, 1, 1), NONE);
        due("1 bicker", s.bicker(1, 0, 1, 1, 1, 0), NONE);
        due("1 chart", s.chart(1, 0, 0, 0), NONE);
        due("1 fits", s.fits(NONE), NONE);
        due("1 secret", s.secret(NONE), NONE);
        due("1 sees", s.sees(0, 0), NONE);
        due("1 everywhere", s.everywhere(0), NONE);
        due("1 when", s.when(0, 0, 0), NONE);
        due("1 lands", s.lands(0, 0), NONE);
        due("1 land", s.land(0, 0), NONE);
        due("1 wide", s.wide(0), NONE);
        due("1 image", s.image(), NONE);
        due("1 back", s.back(), NONE);
        due("1 pull none", s.pull(NONE), true);
        due("1 chance", s.chance(0, 1), true);
    }

    // 2, 3
    private static void tape() {
        DriftSea s = new DriftSea();
        due("2 zeros left out", s.feed(0x69000000, 0x3B, 0, 0x00690000, 0), 3);
        due("2 in order", s.fault(0), NONE);
        due("2 high bytes", s.feed(0xC8000000, 0, 0, 0, 0xFFFFFFFF), 8);
        due("2 at the high byte", s.fault(0), 3);
        due("3 end too far", s.end(9), false);
        due("3 end below 0", s.end(-1), false);
        due("3 unchanged", s.count(5), 8);
        due("3 end at its length", s.end(8), true);
        due("3 end", s.end(3), true);
        due("3 first bytes alone", s.fault(0), NONE);
        due("3 end 0", s.end(0), true);
        for (int i = 1; i <= 12; i++) {
            due("2 feed " + i, s.feed(0x20202020, 0x20202020, 0x20202020, 0x20202020, 0x20202020), 20 * i);
        }
        due("2 more than 240", s.feed(0, 0, 1, 0, 0), NONE);
        due("2 nothing more", s.feed(0, 0, 0, 0, 0), 240);
        due("3 end 230", s.end(230), true);
        due("2 more than 240 by many", s.feed(-1, -1, -1, 0, 0), NONE);
        due("2 refused whole", s.count(5), 230);
        due("2 more than 240 by the last", s.feed(-1, 0, 0, -1, 0x414141), NONE);
        due("2 more than 240 by the fourth", s.feed(-1, 0, 0, 0x414141, -1), NONE);
        due("2 to 240", s.feed(-1, 0, 0, 0x4141, -1), 240);
    }

    // 4 as a SEA
    private static void seaFaults() {
        Object[][] rows = {
            {"", 0}, {"  ", 2}, {"i", 1}, {"i;", 2}, {"i;i", NONE}, {" i ; i ", NONE}, {"i;;i", 2}, {";i;i", 0},
            {"z", 0}, {"i;i;z", 4}, {"ii", 1}, {"i z", 2}, {"I;i", 0},
            {"w;i;i", NONE}, {"i;w;i", NONE}, {"w;w;i;i", 2}, {"i;i;w;w", 6},
            {"i;i;i;i;i;i", NONE}, {"i;i;i;i;i;i;i", 12},
            {"i;i;t;t;t;t;t;t;t;t", NONE}, {"i;i;t;t;t;t;t;t;t;t;t", 20},
            {"i;i;b;b;b;b", NONE}, {"i;i;b;b;b;b;b", 12},
            {"im0;i", 2}, {"im00;i", 3}, {"im01;i", NONE}, {"im9;i", NONE}, {"im10;i", 3}, {"im123;i", 4},
            {"ix99y00;i", NONE}, {"ix100;i", 4}, {"ix;i", 2}, {"ix", 2}, {"ix1x2;i", 3}, {"i x 5 ; i", NONE},
            {"ix5 5;i", 4}, {"ixy5;i", 2}, {"ix-1;i", 2},
            {"ig3n4q9s99p99;i", NONE}, {"ig4;i", 2}, {"in5;i", 2}, {"iq0;i", 2}, {"iq10;i", 3}, {"is0p0;i", NONE},
            {"wf9j9r1c99;i;i", NONE}, {"wf10;i;i", 3}, {"wj10;i;i", 3}, {"wr2;i;i", 2}, {"wc0;i;i", 2}, {"wx1;i;i", 1},
            {"tk2;i;i", 2}, {"tw0;i;i", 2}, {"tw9k1;i;i", NONE}, {"ta6;i;i", 2}, {"tb6;i;i", 2}, {"tl5;i;i", 1},
            {"bl0;i;i", 2}, {"bl99;i;i", NONE}, {"ba1b0;i;i", NONE}, {"bw1;i;i", 1},
            {"i;i;ta1", 7}, {"i;i;ta1;w", 9}, {"i;i;ta1b0", NONE}, {"i;i;tb2", 7}, {"i;i;tb2;i", NONE},
            {"i;i;ta2", 7}, {"i;i;ba2", 7}, {"i;i;ta2;i", NONE},
            {"ta5;i;i", 7}, {"i;i;bb2", 7}, {"i;i;ba1b1", 9}, {"t;b", 3}, {"i" + (char) 200, 1},
        };
        for (Object[] row : rows) {
            due("4 fault(0) of " + row[0], Check.faultOf(0, (String) row[0]), (Integer) row[1]);
        }
        DriftSea s = new DriftSea();
        due("4 sort 2", s.fault(2), -2);
        due("4 sort -1", s.fault(-1), -2);
    }

    // 4 as a PULL
    private static void pullFaults() {
        Object[][] rows = {
            {"", 0}, {"y", 1}, {"y:", 2}, {"d", 0}, {"y:d", NONE}, {"y:d;", 4}, {"y:d;y:1", NONE}, {"y:d;d", 4},
            {"y:x", 2}, {"y:y", 2}, {"y:9999", NONE}, {"y:0000", NONE}, {"y:10000", 6}, {"y:1 2", 4},
            {"y:d>1", 5}, {"y:d>1?", 6}, {"y:d>1?w", NONE}, {"y:d>1;", 5}, {"y:d?w", 3}, {"y:d=w=k?1", 5},
            {"y:(d)", 4}, {"y:(d>1)", 7}, {"y:(d>1)?w", NONE}, {"y:(d>1)>1?w", 7}, {"y:(d>1?w", 6}, {"y:d)", 3},
            {"y:[d>1]", 4}, {"y:[d]>[w]?k*[m-n]/h", NONE}, {"y:[d", 4}, {"y:d]", 3}, {"y:-1", 2}, {"y:d+", 4},
            {"y:d+*", 4}, {"y:d d", 4}, {"y:!d", 4}, {"y:!d=1?w", NONE}, {"y:d!", 3}, {"y:d=!", 4},
            {"y:d>1|w<2&k=0?3", NONE}, {"y:d>1&?3", 6}, {"y:d>1||", 6}, {"y:d>1?w>1", 7}, {"y:(d>1)?(", 8},
            {"y:!!!!!!d=1?w", NONE}, {"y:!!!!!!!d=1?w", 8}, {"y:[[[[[[d]]]]]]", NONE}, {"y:[[[[[[[d", 8},
            {"y:((((((d=1))))))?w", NONE}, {"y:(((((((", 8}, {"y:!(!([[d]]=1))?w", NONE}, {"y:!(!(![[d]]", 8},
            {"y:d=1?[[[[[[d]]]]]]", NONE}, {"y:d=1?[[[[[[[d", 12},
            {"y:(d=1)&(d=1)&(d=1)&(d=1)&(d=1)&(d=1)&(d=1)?w", NONE}, {"y:!!!!!!d=[1]?w", 10},
            {" y : ( d > 1 ) & ! w = 2 ? 3 * [ 4 - k ] ", NONE}, {"y:d" + (char) 255, 3},
        };
        for (Object[] row : rows) {
            due("4 fault(1) of " + row[0], Check.faultOf(1, (String) row[0]), (Integer) row[1]);
        }
    }

    // 5
    private static void texts() {
        DriftSea s = new DriftSea();
        Check.tape(s, "i;iz");
        due("5 a FAULT", s.text(0), NONE);
        due("5 a FAULT as a PULL", s.text(1), NONE);
        due("5 no such sort", s.text(2), NONE);
        due("5 the TAPE stays", s.count(5), 4);
        Check.tape(s, SWING + ";b");
        due("5 a SEA", s.text(0), 2);
        due("5 the TAPE is empty", s.count(5), 0);
        due("5 PULL 0", Check.rule(s, "y:1"), 0);
        due("5 the TAPE is empty again", s.count(5), 0);
        due("5 PULL 1", Check.rule(s, "y:2"), 1);
        due("5 PULL 2", Check.rule(s, "y:3"), 2);
        due("5 PULL 3", Check.rule(s, "y:5"), 3);
        due("5 no fifth", Check.rule(s, "y:6"), NONE);
        due("5 its TAPE stays", s.count(5), 3);
        s.pull(3);
        s.chance(0, 7);
        s.chance(1, 8);
        s.chart(1, 0, 0, 0);
        s.go(2);
        s.image();
        Check.tape(s, SWING);
        due("5 another SEA", s.text(0), 2);
        due("5 SEASON 0", s.count(6), 0);
        due("5 nothing to undo", s.undo(), NONE);
        due("5 nothing put by", s.count(14), 0);
        due("5 no IMAGE", s.back(), NONE);
        due("5 no CHARTS", s.count(12), 0);
        due("5 no BRIDGES", s.count(3), 0);
        due("5 PULLS stay", s.count(4), 4);
        due("5 the one that holds, too", s.count(7), 3);
        due("5 it holds", s.tie(0, 4), 5);
        due("5 STORM stays", s.chance(0, 7), false);
        due("5 SALT stays", s.chance(1, 8), false);
    }

    // 6
    private static void isles() {
        DriftSea s = Check.sea("ix1y2m3g1n2q4s5p6;i");
        int[] first = {1, 2, 3, 0, 0, 1, 2, 4, 5, 6};
        int[] second = {50, 50, 1, 1, 0, 0, 4, 1, 9, 5};
        for (int what = 0; what < 10; what++) {
            due("6 isle(0, " + what + ")", Check.isle(s, 0, what), first[what]);
            due("6 isle(1, " + what + ")", Check.isle(s, 1, what), second[what]);
        }
        due("6 isle(2, 0)", Check.isle(s, 2, 0), Check.THROWN);
        due("6 isle(-1, 0)", Check.isle(s, -1, 0), Check.THROWN);
        due("6 isle(0, 10)", Check.isle(s, 0, 10), Check.THROWN);
        due("6 isle(0, -1)", Check.isle(s, 0, -1), Check.THROWN);
        s = Check.sea("wj9;ix4y4m2g1p7;ix5y6m3g2n3q8s1p2");
        s.go(1);
        int[] part = {4, 4, 5, 0, 0, 2, 3, 8, 1, 2};
        for (int what = 0; what < 10; what++) {
            due("6 a part's " + what, Check.isle(s, 1, what), part[what]);
        }
    }

    // 7, 8, 9
    private static void tiesAndBridges() {
        DriftSea s = Check.sea("i;ix60;iy53;ta2b1k1w7;t;ta0b2;b;ba2b0l7");
        int[] first = {2, 1, 1, 7, -7};
        int[] second = {0, 1, 0, 1, 1};
        for (int what = 0; what < 5; what++) {
            due("7 tie(0, " + what + ")", s.tie(0, what), first[what]);
            due("7 tie(1, " + what + ")", s.tie(1, what), second[what]);
        }
        due("7 tie(0, 5)", s.tie(0, 5), HIDDEN);
        due("7 tie(0, -1)", s.tie(0, -1), HIDDEN);
        due("7 tie(3, 0)", s.tie(3, 0), HIDDEN);
        due("7 tie(-1, 0)", s.tie(-1, 0), HIDDEN);
        due("7 at one place", Check.sea("i;i;tw5").tie(0, 4), 0);
        int[] bridge = {2, 0, 7, 1};
        int[] plain = {0, 1, 30, 1};
        for (int what = 0; what < 4; what++) {
            due("8 bridge(1, " + what + ")", s.bridge(1, what), bridge[what]);
            due("8 bridge(0, " + what + ")", s.bridge(0, what), plain[what]);
        }
        due("8 bridge(0, 4)", s.bridge(0, 4), NONE);
        due("8 bridge(0, -1)", s.bridge(0, -1), NONE);
        due("8 bridge(2, 0)", s.bridge(2, 0), NONE);
        due("8 bridge(-1, 0)", s.bridge(-1, 0), NONE);
        due("9 far(1, 2)", s.far(1, 2), 13);
        due("9 far(2, 1)", s.far(2, 1), 13);
        due("9 far(1, 1)", s.far(1, 1), 0);
        due("9 far(0, 3)", s.far(0, 3), NONE);
        due("9 far(-1, 0)", s.far(-1, 0), NONE);
    }

    // 5, 7, 10: what a PULL is worth; d 12, w 6, k 1, m 3, n 4, h 0
    private static void worths() {
        Object[][] rows = {
            {"y:d", 12}, {"y:w", 6}, {"y:k", 1}, {"y:m", 3}, {"y:n", 4}, {"y:h", 0}, {"y:77", 77},
            {"y:d-w*2", 0}, {"y:[d-w]*2", 12}, {"y:d-w-k", 5}, {"y:d/w/2", 1}, {"y:d/w*2", 4}, {"y:d-[w-k]", 7},
            {"y:0-d/5", -2}, {"y:[0-d]/5", -2}, {"y:d/0", 0}, {"y:d/h+k", 1}, {"y:9999", 99}, {"y:0-9999", -99},
            {"y:9999*9999/9999-50", 50}, {"y:[0-9999]*9999/9999+50", -50}, {"y:[9999*9999+5000]/5000-150", 50},
            {"y:d>11?1;y:2", 1}, {"y:d>12?1;y:2", 2}, {"y:d<13?1;y:2", 1}, {"y:d<12?1;y:2", 2},
            {"y:d=12?1;y:2", 1}, {"y:d=13?1", 0}, {"y:d=13?1;y:d=12?2;y:3", 2}, {"y:1;y:2", 1},
            {"y:!d=12?1;y:2", 2}, {"y:!!d=12?1;y:2", 1}, {"y:!(d=12&w=6)?1;y:2", 2}, {"y:!d=1&k=0?1;y:2", 2},
            {"y:k=1|d=0&w=0?1;y:2", 1}, {"y:(k=1|d=0)&w=0?1;y:2", 2}, {"y:k=0|d=12?1;y:2", 1},
            {"y:k=1&d=1?1;y:2", 2}, {"y : k = 1 ? 0 - w ; y : w", -6}, {"y:d=w+w?1", 1},
        };
        for (Object[] row : rows) {
            DriftSea s = Check.sea("ix0y0m3;ix7y5m4;tw6k1");
            Check.rule(s, (String) row[0]);
            due("10 not yet " + row[0], s.tie(0, 4), -6);
            due("10 pull(0)", s.pull(0), true);
            due("10 worth of " + row[0], s.tie(0, 4), (Integer) row[1]);
        }
        DriftSea longest = Check.sea(SWING);
        due("5 240 bytes", Check.rule(longest, "y:" + "0+".repeat(118) + "42"), 0);
        longest.pull(0);
        due("10 worth of 240 bytes", longest.tie(0, 4), 42);
        DriftSea s = Check.sea("ix0y0;ix50y50;t");
        Check.rule(s, "y:h*2");
        Check.rule(s, "y:7");
        due("10 pull(2)", s.pull(2), false);
        due("10 pull(-2)", s.pull(-2), false);
        due("10 none holds", s.count(7), NONE);
        due("10 pull(1)", s.pull(1), true);
        due("10 the other", s.tie(0, 4), 7);
        due("10 it holds", s.count(7), 1);
        due("10 pull(4)", s.pull(4), false);
        due("10 it holds still", s.count(7), 1);
        due("10 pull(0)", s.pull(0), true);
        s.go(3);
        due("10 the SEASON", s.tie(0, 4), 6);
        due("10 behind h 0, 1, 2", Check.isle(s, 0, 0), 0 + 1 + 2);
        due("10 pull(NONE)", s.pull(NONE), true);
        due("10 by STRENGTH again", s.tie(0, 4), 1);
    }

    // 11, 12, 13
    private static void byHand() {
        DriftSea s = Check.sea(SWING);
        due("11 turn", s.turn(0), true);
        due("11 a quarrel", s.tie(0, 2), 1);
        due("11 it pushes", s.tie(0, 4), -4);
        due("11 turn again", s.turn(0), true);
        due("11 a bargain", s.tie(0, 2), 0);
        due("11 turn(1)", s.turn(1), false);
        due("11 turn(-1)", s.turn(-1), false);
        due("12 as it is", s.price(1, 5), false);
        due("12 price 0", s.price(1, 0), true);
        due("12 told", Check.isle(s, 1, 9), 0);
        due("12 price 99", s.price(1, 99), true);
        due("12 price 100", s.price(1, 100), false);
        due("12 price -1", s.price(1, -1), false);
        due("12 price(2, 1)", s.price(2, 1), false);
        due("12 price(-1, 1)", s.price(-1, 1), false);
        due("12 unchanged", Check.isle(s, 1, 9), 99);
        due("13 STORM is 0", s.chance(0, 0), false);
        due("13 STORM 99", s.chance(0, 99), true);
        due("13 SALT 99", s.chance(1, 99), true);
        due("13 it is so", s.chance(1, 99), false);
        due("13 100", s.chance(0, 100), false);
        due("13 -1", s.chance(0, -1), false);
        due("13 no such what", s.chance(2, 5), false);
        due("13 no such what below", s.chance(-1, 5), false);
        due("13 STORM 0", s.chance(0, 0), true);
    }

    // 14
    private static void seasons() {
        DriftSea s = Check.sea(SWING);
        due("14 go(0)", s.go(0), NONE);
        due("14 go(61)", s.go(61), NONE);
        due("14 go(-1)", s.go(-1), NONE);
        int[][] places = {{4, 8}, {8, 6}, {4, 8}};
        for (int i = 0; i < places.length; i++) {
            due("14 go(1)", s.go(1), i + 1);
            due("14 isle 0", Check.isle(s, 0, 0), places[i][0]);
            due("14 isle 1", Check.isle(s, 1, 0), places[i][1]);
        }
        due("14 go(60)", s.go(60), 63);
        // cut towards 0 in x and y each: PULL 9, 3 and 4 apart: 27 / 7 and 36 / 7, by MASS 2
        s = Check.sea("ix3y4m2;ix0y0;tw9");
        s.go(1);
        due("14 x cut by FAR and MASS", Check.isle(s, 0, 0), 3 - 1);
        due("14 y cut by FAR and MASS", Check.isle(s, 0, 1), 4 - 2);
        due("14 x of the other", Check.isle(s, 1, 0), 3);
        due("14 y of the other", Check.isle(s, 1, 1), 5);
        // a quarrel of 99 a season ends at the bounds
        s = Check.sea("ix0y50;ix9y50;t");
        Check.rule(s, "y:0-99");
        s.pull(0);
        s.go(60);
        due("14 not below -999", Check.isle(s, 0, 0), -999);
        due("14 not above 999", Check.isle(s, 1, 0), 999);
        due("14 nobody goes there", s.log(0, 2), 0);
        due("19 nor would", s.drift(0, 0), 0);
        due("19 nor the other", s.drift(1, 0), 0);
        // trade pulls, if it does
        s = Check.sea("wr1;in1q4x0y0;ig1x9y0m2");
        s.go(1);
        due("14 who buys is drawn", Check.isle(s, 0, 0), 4);
        due("14 who sells is drawn", Check.isle(s, 1, 0), 7);
        s = Check.sea("in1q4x0y0;ig1x9y0m2");
        s.go(1);
        due("14 no trade pulls", Check.isle(s, 0, 0), 0);
        // a bridge of just its length stands
        s = Check.sea("ix0y0;ix10y0;tk1w3;bl16;bl15");
        s.go(1);
        due("14 it stands", s.bridge(0, 3), 1);
        due("14 it snaps", s.bridge(1, 3), 0);
    }

    // 6, 14, 17: which become one
    private static void joins() {
        int[][] scars = {{4, 1}, {6, 1}, {7, 0}, {8, 0}};
        for (int[] row : scars) {
            DriftSea s = Check.sea("wj3c" + row[0] + ";ix0y0m2;ix10y0m3;tw9");
            s.go(1);
            due("14 one HEAD", s.count(1), 1);
            due("6 its place", Check.isle(s, 1, 0), 4);
            due("6 MASS together", Check.isle(s, 1, 2), 5);
            due("6 its HEAD", Check.isle(s, 1, 3), 0);
            due("6 SCARS with SCAR " + row[0], Check.isle(s, 1, 4), row[1]);
            due("17 parts", s.log(0, 0), 1);
            due("17 how far", s.log(0, 2), 7);
            due("7 no PULL within", s.tie(0, 4), 0);
        }
        // the SCAR of others than isle 0, by y
        DriftSea along = Check.sea("wj3c4;ix99y99;ix99y0;ix0y50m3;ix0y60m2;ta3b2w9");
        along.go(1);
        due("6 place by y", Check.isle(along, 3, 1), 53);
        due("6 SCARS by y", Check.isle(along, 3, 4), 1);
        due("6 SCARS of the HEAD", Check.isle(along, 2, 4), 1);
        due("6 no SCARS", Check.isle(along, 1, 4), 0);
        DriftSea s = Check.sea("wj2;ix0y0m2;ix10y0m3;tw9");
        s.go(1);
        due("14 too far to JOIN", s.count(1), 2);
        // the first pair first: isle 1 is near both, but isle 0 and 1 come first, and then 2 is too far
        s = Check.sea("wj1;ix0y0;ix1y0;ix2y0");
        s.go(1);
        due("14 two HEADS", s.count(1), 2);
        due("14 isle 1 is a part", Check.isle(s, 1, 3), 0);
        due("14 isle 2 is none", Check.isle(s, 2, 3), 2);
        s = Check.sea("wj9;ix0y0;ix1y0;ix2y0;ix3y0;ix99y99");
        s.go(1);
        due("17 as long as there are such", s.log(0, 0), 3);
        due("6 MASS of four", Check.isle(s, 3, 2), 4);
        // isle 2 is a part of 1 first, then with it of 0
        s = Check.sea("wc1;ix5y0m9;ix0y0;ix0y0;ta0b1");
        Check.rule(s, "y:h=0?0;y:8");
        s.pull(0);
        s.go(1);
        due("14 isle 2 is a part of 1", Check.isle(s, 2, 3), 1);
        due("14 without a SCAR", Check.isle(s, 2, 4), 0);
        s.go(1);
        due("14 eight by MASS 2", Check.isle(s, 2, 0), 4);
        s.go(1);
        due("14 past it", Check.isle(s, 1, 0), 8);
        due("14 apart still", s.count(1), 2);
        s = Check.sea("wc1;ix4y0m9;ix0y0;ix0y0;ta0b2");
        s.pull(NONE);
        Check.rule(s, "y:h=0?0;y:8");
        s.pull(0);
        s.go(2);
        due("14 all one", s.count(1), 1);
        due("14 parts of a part", Check.isle(s, 2, 3), 0);
        due("14 with a SCAR", Check.isle(s, 2, 4), 1);
        due("17 one became a part", s.log(0, 0), 1);
        due("7 ties of parts", s.tie(0, 4), 0);
        s = Check.sea("wj1;ix50y50;ix51y50m9;ix60y50;ta1b2w5;ba1b2l5");
        s.go(1);
        due("14 a part's tie draws its HEAD", s.led(0, 0, 0), 5);
        due("14 and it as its HEAD", s.led(1, 0, 0), 5);
        due("8 a part's bridge", s.bridge(0, 3), 1);
    }

    // 13, 15: seed 19 draws 85 of 100, 1 of 2, 7 and 15 of 19, 15 of 100, 0 of 2; or 85, 39 of 100, 1 of 2
    private static void years() {
        DriftSea s = Check.sea("ix20y20;ix60y60;t;t");
        Check.rule(s, "y:0");
        s.pull(0);
        due("15 years(0, 1)", s.years(0, 1L), NONE);
        due("15 years(61, 1)", s.years(61, 1L), NONE);
        s.chance(0, 86);
        s.chance(1, 16);
        due("15 years(1, 19)", s.years(1, 19L), 1);
        due("15 the storm's x", Check.isle(s, 1, 0), 58);
        due("15 the storm's y", Check.isle(s, 1, 1), 66);
        due("15 isle 0 stays", Check.isle(s, 0, 0), 20);
        due("15 salt turns 0", s.tie(0, 2), 1);
        due("15 and not 1", s.tie(1, 2), 0);
        due("17 storms are not put by", s.log(0, 2), 0);
        due("16 undone", s.undo(), 0);
        due("16 place", Check.isle(s, 1, 0), 60);
        due("16 KINDS, too", s.tie(0, 2), 0);
        s.chance(1, 15);
        s.years(1, 19L);
        due("15 not below SALT", s.tie(0, 2), 0);
        s.undo();
        s.chance(0, 85);
        s.chance(1, 40);
        s.years(1, 19L);
        due("15 not below STORM", Check.isle(s, 1, 0), 60);
        due("15 salt turns 1", s.tie(1, 2), 1);
        due("15 and not 0", s.tie(0, 2), 0);
        DriftSea one = Check.sea(SWING);
        one.chance(0, 50);
        one.chance(1, 50);
        due("15 years(60, -5)", one.years(60, -5L), 60);
        DriftSea other = Check.sea(SWING);
        other.chance(0, 50);
        other.chance(1, 50);
        other.years(60, -5L);
        due("15 the same seed", Check.isle(other, 0, 0), Check.isle(one, 0, 0));
        due("15 without chances as by hand", Check.sea(SWING).years(2, 9L), 2);
        due("14 go has no storms", one.go(1), 61);
    }

    // 16
    private static void undone() {
        DriftSea s = Check.sea("ix0y0;ix10y0m2;tw4;bl9");
        due("16 none", s.undo(), NONE);
        s.turn(0);
        s.go(1);
        due("16 snapped", s.bridge(0, 3), 0);
        s.turn(0);
        s.price(0, 44);
        due("16 undo", s.undo(), 0);
        due("16 the bridge stands", s.bridge(0, 3), 1);
        due("16 the place", Check.isle(s, 0, 0), 0);
        due("16 KINDS as ahead of it", s.tie(0, 2), 1);
        due("16 PRICES stay", Check.isle(s, 0, 9), 44);
        due("16 none more", s.undo(), NONE);
        s = Check.sea("wj9;ix0y0;ix2y0");
        s.go(40);
        for (int i = 1; i <= 30; i++) {
            due("16 undo " + i, s.undo(), 40 - i);
        }
        due("16 no more than 30", s.undo(), NONE);
        due("16 ten stay", s.count(6), 10);
        due("17 ten put by", s.count(14), 10);
        s = Check.sea("wj9c1;ix0y0m2;ix12y0m3;tw9");
        s.go(1);
        due("16 one", s.count(1), 1);
        s.undo();
        due("16 two again", s.count(1), 2);
        due("16 MASS again", Check.isle(s, 0, 2), 2);
        due("16 SCARS again", Check.isle(s, 0, 4), 0);
        due("16 its own place", Check.isle(s, 1, 0), 12);
        due("17 nothing put by", s.log(0, 0), NONE);
    }

    // 17
    private static void putBy() {
        DriftSea s = Check.sea("ix0y0;ix10y0m2;tw4k1;bl15;bl12;bl99");
        s.go(1);
        due("17 two snapped", s.log(0, 1), 2);
        due("17 how far", s.log(0, 2), 6);
        due("17 no parts", s.log(0, 0), 0);
        due("17 log(1, 0)", s.log(1, 0), NONE);
        due("17 log(0, 3)", s.log(0, 3), NONE);
        due("17 log(0, -1)", s.log(0, -1), NONE);
        due("17 log(-1, 0)", s.log(-1, 0), NONE);
        s.go(1);
        due("17 none snapped", s.log(0, 1), 0);
        due("17 the one ahead", s.log(1, 1), 2);
        s.go(57);
        due("17 the first of 59", s.log(58, 1), 2);
        s.go(1);
        due("17 the first of 60", s.log(59, 1), 2);
        s.go(1);
        due("17 it is gone", s.log(59, 1), 0);
        due("17 no more than 60", s.log(60, 1), NONE);
        due("17 count", s.count(14), 60);
        s.undo();
        due("17 one less", s.count(14), 59);
    }

    // 18, 19
    private static void draws() {
        DriftSea s = Check.sea("ix3y4m2;ix0y0;ix50;tw9;ta0b2k1w3");
        due("18 x", s.led(0, 0, 0), -3);
        due("18 y", s.led(0, 0, 1), -5);
        due("18 the other's x", s.led(1, 0, 0), 3);
        due("18 the other's y", s.led(1, 0, 1), 5);
        due("18 not of it", s.led(2, 0, 0), 0);
        // FAR is 47 and 46
        due("18 a quarrel", s.led(0, 1, 0), -1);
        due("18 a quarrel's other", s.led(2, 1, 0), 1);
        due("18 axis 2", s.led(0, 0, 2), HIDDEN);
        due("18 axis -1", s.led(0, 0, -1), HIDDEN);
        due("18 no such isle", s.led(3, 0, 0), HIDDEN);
        due("18 no such tie", s.led(0, 2, 0), HIDDEN);
        due("18 tie -1", s.led(0, -1, 0), HIDDEN);
        due("19 by all, by MASS", s.drift(0, 0), -2);
        due("19 y by all", s.drift(0, 1), -3);
        due("19 the other", s.drift(1, 1), 5);
        due("19 axis 2", s.drift(0, 2), HIDDEN);
        due("19 axis -1", s.drift(0, -1), HIDDEN);
        due("19 no such isle", s.drift(3, 0), HIDDEN);
        due("18 at one place", Check.sea("i;i;tw5").led(0, 0, 0), 0);
        s = Check.sea("wr1;in1q4x0y0;ig1x9y0m2");
        due("19 by trade", s.drift(0, 0), 4);
        due("19 who sells", s.drift(1, 0), -2);
    }

    // 20, 21, 22, 23
    private static void trade() {
        DriftSea s = Check.sea("wf2;in1q5;ig1s3p4x53;ig1p9;in1q2x53");
        due("20 the cheaper one", s.buys(0, 2), 5);
        due("20 not the dearer", s.buys(0, 1), 0);
        due("20 by FAR", s.buys(3, 1), 2);
        due("20 alike", s.buys(1, 1), NONE);
        due("20 no such", s.buys(0, 4), NONE);
        due("20 no such buyer", s.buys(-1, 0), NONE);
        due("21 pays(0)", s.pays(0), 45);
        due("21 pays(3)", s.pays(3), 8);
        due("21 pays(1)", s.pays(1), 0);
        due("21 pays(4)", s.pays(4), NONE);
        due("22 lacks(0)", s.lacks(0), 0);
        due("22 lacks(-1)", s.lacks(-1), NONE);
        due("23 who", s.monopoly(1, 0), 2);
        due("23 how much", s.monopoly(1, 1), 5);
        due("23 nothing is sold", s.monopoly(0, 0), NONE);
        due("23 good 4", s.monopoly(4, 0), NONE);
        due("23 good -1", s.monopoly(-1, 0), NONE);
        due("23 what 2", s.monopoly(1, 2), NONE);
        // stock ends, the lower one of two as cheap, and the next buyer has what is left
        s = Check.sea("in1q5;in1q9;ig1s3p4;ig1s4p4");
        due("20 the lower one", s.buys(0, 2), 3);
        due("20 then the other", s.buys(0, 3), 2);
        due("20 what is left", s.buys(1, 3), 2);
        due("22 it lacks", s.lacks(1), 7);
        due("23 both sold", s.monopoly(1, 0), 3);
        due("23 by both", s.monopoly(1, 1), 4);
        s.price(3, 3);
        due("20 the PRICE told", s.buys(0, 3), 4);
        s = Check.sea("wf0;in1q3;in1q3;ig1s3x99p1;ig1s3x0p2");
        due("23 as much: the lower", s.monopoly(1, 0), 2);
        // not of itself, and parts trade no more
        s = Check.sea("wj9;ig1n1;ig1;in1q7x90;ig1x99");
        due("20 of the other", s.buys(0, 1), 1);
        s.go(1);
        due("20 a part sells no more", s.buys(2, 1), 0);
        due("20 nor is it near", s.buys(0, 3), 0);
        due("20 joined as well", s.count(1), 2);
        s = Check.sea("wj9;ix0;in1q7x5;ig1x90s3");
        due("22 it lacks some", s.lacks(1), 4);
        s.go(1);
        due("20 a part buys no more", s.buys(1, 2), 0);
        due("21 pays no more", s.pays(1), 0);
        due("22 lacks no more", s.lacks(1), 0);
    }

    // 24
    private static void undercut() {
        DriftSea s = Check.sea("wf2;in1q5;ig1s3p4x53;ig1p9;in1q2x53");
        due("24 it buys already", s.undercut(2, 0), 0);
        due("24 as cheap is enough for the lower", s.undercut(1, 0), 1);
        due("24 it can't be", s.undercut(2, 3), NONE);
        due("24 not what is needed", s.undercut(0, 3), NONE);
        due("24 nothing needed", s.undercut(0, 1), NONE);
        due("24 alike", s.undercut(1, 1), NONE);
        due("24 no such", s.undercut(4, 0), NONE);
        due("24 no such buyer", s.undercut(1, 4), NONE);
        due("24 as it was", Check.isle(s, 1, 9), 4);
        s = Check.sea("wf0;in1;ig1p3;ig1p7");
        due("24 the higher has to be cheaper", s.undercut(2, 0), 5);
        s.price(1, 0);
        due("24 not below 0", s.undercut(2, 0), NONE);
    }

    // 25, 26, 27, 28, 29, 30
    private static void forecasts() {
        DriftSea s = Check.sea(SWING + ";b");
        s.chance(0, 99);
        s.chance(1, 99);
        due("25 behind 1", s.ahead(0, 1, 0), 4);
        due("25 behind 2", s.ahead(1, 2, 0), 6);
        due("25 y", s.ahead(1, 60, 1), 0);
        due("25 its HEAD", s.ahead(1, 60, 2), 1);
        due("25 n 0", s.ahead(0, 0, 0), HIDDEN);
        due("25 n 61", s.ahead(0, 61, 0), HIDDEN);
        due("25 what 3", s.ahead(0, 1, 3), HIDDEN);
        due("25 what -1", s.ahead(0, 1, -1), HIDDEN);
        due("25 no such isle", s.ahead(2, 1, 0), HIDDEN);
        due("25 nothing has changed", s.count(6), 0);
        due("26 not at rest", s.rest(60), NONE);
        due("27 behind 3", s.round(60, 0), 3);
        due("27 two long", s.round(3, 1), 2);
        due("27 not within 2", s.round(2, 1), NONE);
        due("27 n 0", s.round(0, 0), NONE);
        due("27 n 61", s.round(61, 0), NONE);
        due("27 what 2", s.round(9, 2), NONE);
        due("29 the least", s.nearest(0, 1, 60, 0), 2);
        due("29 first", s.nearest(1, 0, 60, 1), 2);
        due("29 now", s.nearest(0, 1, 0, 1), 0);
        due("29 within 1", s.nearest(0, 1, 1, 0), 4);
        due("29 n -1", s.nearest(0, 1, -1, 0), NONE);
        due("29 n 61", s.nearest(0, 1, 61, 0), NONE);
        due("29 alike", s.nearest(0, 0, 1, 0), NONE);
        due("29 what 2", s.nearest(0, 1, 1, 2), NONE);
        due("29 no such isle", s.nearest(0, 2, 1, 0), NONE);
        due("30 it stands for long", s.snap(0), NONE);
        s = Check.sea("i;i");
        due("26 they become one", s.rest(0), NONE);
        due("26 behind 1", s.rest(1), 1);
        due("26 n -1", s.rest(-1), NONE);
        due("26 n 61", s.rest(61), NONE);
        due("26 n 60", s.rest(60), 1);
        due("27 behind the joining", s.round(60, 0), 2);
        s = Check.sea(LINE);
        due("26 at rest", s.rest(0), 0);
        due("27 as now", s.round(1, 0), 1);
        due("27 one long", s.round(1, 1), 1);
        s = Check.sea("wj3;ix0y0;ix10y0;tw2");
        due("28 not within 1", s.one(0, 1, 1), NONE);
        due("28 within 2", s.one(1, 0, 2), 2);
        due("28 n 60", s.one(0, 1, 60), 2);
        due("28 n 0", s.one(0, 1, 0), NONE);
        due("28 n 61", s.one(0, 1, 61), NONE);
        due("28 alike", s.one(0, 0, 5), NONE);
        due("28 no such isle", s.one(0, 2, 5), NONE);
        due("25 HEAD then", s.ahead(1, 2, 2), 0);
        s.go(2);
        due("28 now", s.one(0, 1, 1), 0);
        due("28 now, n 0", s.one(0, 1, 0), NONE);
        due("27 not within 60", Check.sea("ix0y0;ix9y0;ix0y50;ix50;ix99;iy99;tk1").round(60, 0), NONE);
        s = Check.sea("ix0y0;ix10y0m2;tk1;bl69;bl70");
        due("30 behind 60", s.snap(0), 60);
        due("30 not within 60", s.snap(1), NONE);
        due("28 not within 60", s.one(0, 1, 60), NONE);
        s = Check.sea("ix0y0;ix10y0;tk1w3;bl20;bl99");
        due("30 behind 2", s.snap(0), 2);
        due("30 later", s.snap(1), 15);
        due("30 no such", s.snap(2), NONE);
        due("30 -1", s.snap(-1), NONE);
        s.go(2);
        due("30 it does not stand", s.snap(0), 0);
    }

    // 31, 32
    private static void ships() {
        DriftSea s = Check.sea("ix0y0;ix2y3");
        int[][] rows = {{1, 5}, {2, 3}, {3, 2}, {4, 2}, {5, 1}, {99, 1}};
        for (int[] row : rows) {
            due("31 SPEED " + row[0], s.sail(0, 1, row[0], 0), row[1]);
            due("31 by itself", s.sail(1, 0, row[0], 1), 0);
        }
        int[][] least = {{1, 5}, {2, 3}, {3, 2}, {4, 2}, {5, 1}, {60, 1}};
        for (int[] row : least) {
            due("32 within " + row[0], s.haste(0, 1, row[0]), row[1]);
        }
        due("31 SPEED 0", s.sail(0, 1, 0, 0), NONE);
        due("31 SPEED 100", s.sail(0, 1, 100, 0), NONE);
        due("31 what 2", s.sail(0, 1, 1, 2), NONE);
        due("31 alike", s.sail(1, 1, 1, 0), NONE);
        due("31 no such", s.sail(0, 2, 1, 0), NONE);
        due("32 n 0", s.haste(0, 1, 0), NONE);
        due("32 n 61", s.haste(0, 1, 61), NONE);
        due("32 alike", s.haste(0, 0, 5), NONE);
        due("32 no such", s.haste(2, 0, 5), NONE);
        s = Check.sea(SWING);
        due("31 it moves", s.sail(0, 1, 3, 0), 2);
        due("31 overtaken", s.sail(1, 0, 2, 1), 1);
        due("31 then", s.sail(1, 0, 2, 0), 2);
        due("32 in one season", s.haste(0, 1, 1), 8);
        s = Check.sea("ix0y0;ix99y0;ix99y1");
        due("32 the greatest SPEED", s.haste(0, 1, 1), 99);
        due("32 no greater one", s.haste(0, 2, 1), NONE);
        s = Check.sea("i;i");
        due("31 it lies there", s.sail(0, 1, 1, 0), 1);
        due("31 without sailing", s.sail(0, 1, 1, 1), 1);
        // it flees by 99 a season till 999, and the ship goes 1
        s = Check.sea("ix0y50;ix9y50;t");
        Check.rule(s, "y:0-99");
        s.pull(0);
        due("31 not within 60", s.sail(0, 1, 16, 0), NONE);
        due("31 nor overtaken", s.sail(0, 1, 16, 1), NONE);
        due("31 999 by 17", s.sail(0, 1, 17, 0), 59);
        due("32 999 within 60", s.haste(0, 1, 60), 17);
        due("32 it can't be", s.haste(0, 1, 1), NONE);
    }

    // 33
    private static void treaties() {
        DriftSea s = Check.sea("ix0y0;ix20y0;ix40y0");
        int[][] rows = {{40, 0}, {39, 1}, {35, 1}, {34, 2}, {30, 2}, {29, 102}, {25, 102}, {24, 10212}, {20, 10212},
            {19, NONE}};
        for (int[] row : rows) {
            due("33 far " + row[0], s.treaty(2, row[0], 1, 5), row[1]);
            due("33 the other way round " + row[0], s.treaty(20, row[0], 1, 5), row[1]);
        }
        due("33 behind two", s.treaty(2, 20, 2, 5), 2);
        due("33 farther than they were", s.treaty(2, 999, 20, 9), 0);
        due("33 far 1000", s.treaty(2, 1000, 1, 5), NONE);
        due("33 far -1", s.treaty(2, -1, 1, 5), NONE);
        due("33 n 0", s.treaty(2, 40, 0, 5), NONE);
        due("33 n 21", s.treaty(2, 40, 21, 5), NONE);
        due("33 STRENGTH 0", s.treaty(2, 40, 1, 0), NONE);
        due("33 STRENGTH 10", s.treaty(2, 40, 1, 10), NONE);
        due("33 alike", s.treaty(11, 40, 1, 5), NONE);
        due("33 no such", s.treaty(3, 40, 1, 5), NONE);
        due("33 no such one", s.treaty(30, 40, 1, 5), NONE);
        due("33 below 0", s.treaty(-1, 40, 1, 5), NONE);
        due("33 nothing has changed", s.count(2), 0);
        due("19 nor draws", s.drift(0, 0), 0);
    }

    // 34
    private static void bickering() {
        DriftSea s = Check.sea("ix0y0;ix10y0");
        due("34 nothing needed", s.bicker(1, 10, 10, 6, 1, 0), 0);
        due("34 no deals", s.bicker(1, 10, 10, 6, 1, 1), 0);
        due("34 a bargain", s.bicker(1, 8, 8, 1, 1, 0), 1);
        due("34 first, then nothing", s.bicker(1, 0, 6, 2, 2, 0), 10);
        due("34 one deal", s.bicker(1, 0, 6, 2, 2, 1), 1);
        due("34 a quarrel", s.bicker(10, 12, 14, 3, 1, 0), 200);
        due("34 it can't be", s.bicker(1, 11, 11, 1, 1, 0), NONE);
        due("34 near above far", s.bicker(1, 11, 10, 1, 1, 0), NONE);
        due("34 near -1", s.bicker(1, -1, 10, 1, 1, 0), NONE);
        due("34 near 1000", s.bicker(1, 1000, 10, 1, 1, 0), NONE);
        due("34 far 1000", s.bicker(1, 0, 1000, 1, 1, 0), NONE);
        due("34 far -1", s.bicker(1, 0, -1, 1, 1, 0), NONE);
        due("34 far 999", s.bicker(1, 0, 999, 1, 1, 0), 0);
        due("34 n 0", s.bicker(1, 0, 99, 0, 1, 0), NONE);
        due("34 n 7", s.bicker(1, 0, 99, 7, 1, 0), NONE);
        due("34 STRENGTH 0", s.bicker(1, 0, 99, 1, 0, 0), NONE);
        due("34 STRENGTH 10", s.bicker(1, 0, 99, 1, 10, 0), NONE);
        due("34 what 2", s.bicker(1, 0, 99, 1, 1, 2), NONE);
        due("34 alike", s.bicker(11, 0, 99, 1, 1, 0), NONE);
        due("34 no such", s.bicker(2, 0, 99, 1, 1, 0), NONE);
        due("34 below 0", s.bicker(-10, 0, 99, 1, 1, 0), NONE);
        due("34 far 0", Check.sea("i;i").bicker(1, 0, 0, 1, 1, 0), 0);
        // a bargain of 1 draws by 2 a season: a quarrel of 1 holds it up
        s = Check.sea("ix0y0;ix10y0;t");
        due("34 held up in each", s.bicker(1, 10, 10, 3, 1, 0), 222);
        due("34 three deals", s.bicker(1, 10, 10, 3, 1, 1), 3);
        due("34 the least as digits", s.bicker(1, 8, 10, 2, 1, 0), 2);
        due("34 two of four", s.bicker(1, 6, 10, 4, 1, 0), 22);
    }

    // 35, 36, 37
    private static void charts() {
        DriftSea s = Check.sea("ix0y0;ix10y0;tw2;tw3;tw1k1");
        due("36 none told: all", s.fits(NONE), 8);
        due("36 the last of all", s.fits(7), 7);
        due("35 chart", s.chart(1, 0, 2, 0), 1);
        due("36 two", s.fits(NONE), 2);
        due("36 fits(0)", s.fits(0), 1);
        due("36 fits(1)", s.fits(1), 6);
        due("36 fits(2)", s.fits(2), NONE);
        due("36 fits(-2)", s.fits(-2), NONE);
        s.turn(2);
        due("36 as they are", s.fits(NONE), 1);
        s.turn(2);
        due("35 the other", s.chart(2, 1, 6, 0), 2);
        due("36 both", s.fits(NONE), 2);
        due("35 one that is not so", s.chart(2, 1, 5, 0), 3);
        due("36 none", s.fits(NONE), 0);
        due("36 no such", s.fits(0), NONE);
        due("35 season 0", s.chart(0, 0, 0, 0), NONE);
        due("35 season 21", s.chart(21, 0, 0, 0), NONE);
        due("35 x 1000", s.chart(1, 0, 1000, 0), NONE);
        due("35 x -1000", s.chart(1, 0, -1000, 0), NONE);
        due("35 y 1000", s.chart(1, 0, 0, 1000), NONE);
        due("35 y -1000", s.chart(1, 0, 0, -1000), NONE);
        due("35 no such isle", s.chart(1, 2, 0, 0), NONE);
        due("35 isle -1", s.chart(1, -1, 0, 0), NONE);
        due("35 the bounds", s.chart(20, 1, 999, -999), 4);
        for (int i = 5; i <= 20; i++) {
            due("35 chart " + i, s.chart(20, 1, -999, 999), i);
        }
        due("35 there are 20", s.chart(1, 0, 2, 0), NONE);
        s = Check.sea("ix0y0;ix10y0");
        due("37 none told: all", s.secret(NONE), 6);
        int[] all = {101, 102, 103, 111, 112, 113};
        for (int i = 0; i < all.length; i++) {
            due("37 secret(" + i + ")", s.secret(i), all[i]);
        }
        due("37 secret(6)", s.secret(6), NONE);
        due("37 secret(-2)", s.secret(-2), NONE);
        s.chart(2, 0, -6, 0);
        due("37 one", s.secret(NONE), 1);
        due("37 the quarrel", s.secret(0), 113);
        due("36 no TIES", s.fits(NONE), 0);
        due("37 none is kept", s.count(2), 0);
        // from the season when it is asked, and with the told TIES
        s = Check.sea("ix0y0;ix10y0;tw2");
        s.chart(1, 0, 4, 0);
        due("37 two more", s.secret(0), 102);
        s.go(1);
        due("36 from now", s.fits(0), 1);
        due("37 from now none is needed", s.secret(NONE), 0);
        s = Check.sea("ix0y0;ix10y0;ix0y10");
        s.chart(1, 2, 0, 8);
        due("37 the lower and the other", s.secret(0), 202);
        due("37 that alone", s.secret(NONE), 1);
    }

    // 38, 39, 40, 41, 42, 43
    private static void seen() {
        DriftSea s = Check.sea(LINE);
        due("38 none", s.sees(0, 2), 0);
        due("38 one", s.sees(0, 3), 2);
        due("38 both", s.sees(0, 9), 6);
        due("38 from the middle", s.sees(1, 6), 5);
        due("38 r -1", s.sees(0, -1), NONE);
        due("38 r 1000", s.sees(0, 1000), NONE);
        due("38 r 999", s.sees(2, 999), 3);
        due("38 no such", s.sees(3, 5), NONE);
        due("39 none", s.everywhere(5), 0);
        due("39 the middle", s.everywhere(6), 2);
        due("39 all", s.everywhere(9), 7);
        due("39 r -1", s.everywhere(-1), NONE);
        due("39 r 1000", s.everywhere(1000), NONE);
        due("41 three", s.lands(2, 0), 3);
        due("41 of one", s.lands(2, 1), 1);
        due("41 two", s.lands(3, 0), 2);
        due("41 of two", s.lands(3, 1), 2);
        due("41 from one to the next", s.lands(6, 0), 1);
        due("41 of three", s.lands(6, 1), 3);
        due("41 what 2", s.lands(6, 2), NONE);
        due("41 r -1", s.lands(-1, 0), NONE);
        due("41 r 1000", s.lands(1000, 0), NONE);
        due("42 of 0", s.land(0, 3), 3);
        due("42 of 2", s.land(2, 3), 4);
        due("42 of all", s.land(2, 6), 7);
        due("42 r -1", s.land(0, -1), NONE);
        due("42 r 1000", s.land(0, 1000), NONE);
        due("42 no such", s.land(3, 1), NONE);
        due("43 FAR", s.wide(0), 9);
        due("43 which", s.wide(1), 2);
        due("43 what 2", s.wide(2), NONE);
        due("43 the least of several", Check.sea("ix5y0;ix0y0;ix9y0;ix0y9;ix9y9").wide(1), 14);
        due("43 at one place", Check.sea("i;i").wide(0), 0);
        s = Check.sea(SWING);
        due("40 now", s.when(1, 10, 0), 0);
        due("40 behind 1", s.when(0, 4, 10), 1);
        due("40 behind 2", s.when(0, 3, 10), 2);
        due("40 not within 1", s.when(0, 3, 1), NONE);
        due("40 never", s.when(0, 1, 60), NONE);
        due("40 n -1", s.when(0, 10, -1), NONE);
        due("40 n 61", s.when(0, 10, 61), NONE);
        due("40 r -1", s.when(0, -1, 5), NONE);
        due("40 r 1000", s.when(0, 1000, 5), NONE);
        due("40 no such", s.when(2, 10, 5), NONE);
        s = Check.sea("i;i");
        s.go(1);
        due("38 its HEAD is not another", s.sees(1, 0), 0);
        due("39 one alone", s.everywhere(0), 1);
        due("40 one alone", s.when(1, 0, 0), 0);
        due("41 one alone", s.lands(0, 0), 1);
        due("42 of a part", s.land(1, 0), 1);
        due("43 one alone", s.wide(0), NONE);
        due("43 which alone", s.wide(1), NONE);
    }

    // 44, 45
    private static void images() {
        DriftSea s = Check.sea("wc1j5;ix0y0;ix10y0m2;tw4;bl99");
        due("45 no IMAGE", s.back(), NONE);
        s.go(1);
        due("17 one became a part", s.log(0, 0), 1);
        due("16 undone", s.undo(), 0);
        s.turn(0);
        due("44 image", s.image(), 0);
        s.turn(0);
        s.price(1, 77);
        s.go(3);
        due("14 one HEAD", s.count(1), 1);
        due("45 back", s.back(), 0);
        due("45 places", Check.isle(s, 1, 0), 10);
        due("45 MASS", Check.isle(s, 0, 2), 1);
        due("45 HEADS", s.count(1), 2);
        due("45 SCARS", Check.isle(s, 0, 4), 0);
        due("45 KINDS", s.tie(0, 2), 1);
        due("45 PRICES", Check.isle(s, 1, 9), 5);
        due("45 no SEASON to undo", s.undo(), NONE);
        due("45 what is put by stays", s.count(14), 3);
        s.go(12);
        due("45 it stands yet", s.bridge(0, 3), 1);
        s.go(5);
        due("45 it has", s.bridge(0, 3), 0);
        due("45 back again", s.back(), 0);
        due("45 BRIDGES", s.bridge(0, 3), 1);
        s.go(2);
        due("44 instead", s.image(), 2);
        s.go(1);
        due("45 to that", s.back(), 2);
        due("45 undone after", s.go(1), 3);
        due("16 that one", s.undo(), 2);
        due("16 none more", s.undo(), NONE);
    }

    // 46
    private static void counts() {
        DriftSea s = Check.sea("wf3j2r1c9;i;ix0;iy0;t;t;b");
        int[] want = {3, 3, 2, 1, 0, 0, 0, NONE, 3, 2, 1, 9, 0, 0, 0};
        for (int what = 0; what < want.length; what++) {
            due("46 count(" + what + ")", s.count(what), want[what]);
        }
        Check.rule(s, "y:1");
        Check.rule(s, "y:1");
        s.pull(1);
        s.go(31);
        s.chart(1, 0, 0, 0);
        s.feed(0x61626300, 0, 0, 0, 0);
        int[] then = {3, 3, 2, 1, 2, 3, 31, 1, 3, 2, 1, 9, 1, 30, 31};
        for (int what = 0; what < then.length; what++) {
            due("46 then count(" + what + ")", s.count(what), what == 1 ? s.count(1) : then[what]);
        }
        due("46 count(15)", s.count(15), HIDDEN);
        due("46 count(-1)", s.count(-1), HIDDEN);
        s = Check.sea("i;i");
        due("46 FREIGHT", s.count(8), 1);
        due("46 JOIN", s.count(9), 0);
        due("46 trade", s.count(10), 0);
        due("46 SCAR", s.count(11), 10);
        s.go(1);
        due("46 HEADS", s.count(1), 1);
        due("46 ISLES", s.count(0), 2);
        due("1 NONE", NONE, -1);
        due("1 HIDDEN", HIDDEN, -1000000);
    }
}
