import java.util.ArrayList;
import java.util.List;

/** What part 1 of the document's terms says of a SEA's text: each bound, and the next one outside of it. */
public final class SeaTextEdgesTest {
    private static final int NONE = DriftSea.NONE;
    /** Of each item: its clause, its letter, the least, the greatest, what it is without. */
    private static final Object[][] ITEMS = {
        {'w', 'f', 0, 9, 1}, {'w', 'j', 0, 9, 0}, {'w', 'r', 0, 1, 0}, {'w', 'c', 1, 99, 10},
        {'i', 'x', 0, 99, 50}, {'i', 'y', 0, 99, 50}, {'i', 'm', 1, 9, 1}, {'i', 'g', 0, 3, 0},
        {'i', 'n', 0, 4, 4}, {'i', 'q', 1, 9, 1}, {'i', 's', 0, 99, 9}, {'i', 'p', 0, 99, 5},
        {'t', 'a', 0, 5, 0}, {'t', 'b', 0, 5, 1}, {'t', 'k', 0, 1, 0}, {'t', 'w', 1, 9, 1},
        {'b', 'a', 0, 5, 0}, {'b', 'b', 0, 5, 1}, {'b', 'l', 1, 99, 30},
    };
    private static final String RICH = "wf3j1r1c20;ix1y22m3g1n2q4s55p6;i;i;ta1b2k1w7;ba2b0l77;t";

    public static void main(String[] args) throws ReflectiveOperationException {
        Edges.runAll(SeaTextEdgesTest.class);
    }

    private static void faultIs(String text, int want) {
        Edges.due("fault(0) of \"" + text + "\"", Check.faultOf(0, text), want);
        DriftSea sea = new DriftSea();
        Check.tape(sea, text);
        if (want != NONE) {
            Edges.due("text(0) of \"" + text + "\"", sea.text(0), NONE);
            Edges.due("the TAPE behind \"" + text + "\"", sea.count(5), text.length());
            Edges.due("ISLES behind \"" + text + "\"", sea.count(0), 0);
        } else {
            Edges.due("text(0) of \"" + text + "\"", sea.text(0) >= 2, true);
        }
    }

    private static String many(String clause, int times) {
        return (clause + ";").repeat(times);
    }

    // ---- how many clauses ----

    @Says("w (the WATER; one at most)")
    static void waters() {
        faultIs("i;i", NONE);
        faultIs("w;i;i", NONE);
        faultIs("i;w;i", NONE);
        faultIs("i;i;w", NONE);
        faultIs("w;w;i;i", 2);
        faultIs("w;i;i;w", 6);
        faultIs("i;i;wf1;wf2", 8);
    }

    @Says("i (an ISLE; 2 .. 6)")
    static void isles() {
        faultIs("", 0);
        faultIs("w", 1);
        faultIs("i", 1);
        faultIs("w;i;t;b", 7);
        for (int isles = 2; isles <= 6; isles++) {
            DriftSea sea = new DriftSea();
            Check.tape(sea, many("i", isles - 1) + "i");
            Edges.due(isles + " ISLES", sea.text(0), isles);
            Edges.due("count(0)", sea.count(0), isles);
            Edges.due("the last one", Check.isle(sea, isles - 1, 3), isles - 1);
            Edges.due("the next one", Check.isle(sea, isles, 3), Check.THROWN);
        }
        faultIs(many("i", 6) + "i", 12);
        faultIs(many("i", 6) + "w;ix1", 14);
    }

    @Says("t (a TIE; none to 8)")
    static void ties() {
        for (int ties = 0; ties <= 8; ties++) {
            DriftSea sea = Check.sea("i;i" + ";tw3".repeat(ties));
            Edges.due(ties + " TIES", sea.count(2), ties);
            Edges.due("the last one", sea.tie(ties - 1, 3), ties == 0 ? DriftSea.HIDDEN : 3);
            Edges.due("the next one", sea.tie(ties, 3), DriftSea.HIDDEN);
        }
        faultIs("i;i;" + many("t", 8) + "t", 20);
        faultIs("i;i;" + many("t", 8) + "w;t", 22);
    }

    @Says("b (a BRIDGE; none to 4)")
    static void bridges() {
        for (int bridges = 0; bridges <= 4; bridges++) {
            DriftSea sea = Check.sea("i;i" + ";bl9".repeat(bridges));
            Edges.due(bridges + " BRIDGES", sea.count(3), bridges);
            Edges.due("the last one", sea.bridge(bridges - 1, 2), bridges == 0 ? NONE : 9);
            Edges.due("the next one", sea.bridge(bridges, 2), NONE);
        }
        faultIs("i;i;" + many("b", 4) + "b", 12);
        faultIs("i;i;" + many("b", 4) + "t;b", 14);
    }

    @Says("The most CLAUSES of all sorts at once: 1, 6, 8, 4")
    static void mostOfAll() {
        DriftSea sea = Check.sea("w;" + many("i", 6) + many("t", 8) + "b;b;b;b");
        Edges.due("ISLES", sea.count(0), 6);
        Edges.due("TIES", sea.count(2), 8);
        Edges.due("BRIDGES", sea.count(3), 4);
        for (String more : new String[] {"w", "i", "t", "b"}) {
            faultIs("w;" + many("i", 6) + many("t", 8) + "b;b;b;b;" + more, 38);
        }
    }

    @Says("The most CLAUSES of all sorts at once, each with its own ITEMS, each changed by itself")
    static void mostEachItsOwn() {
        StringBuilder text = new StringBuilder("wf2j3r1c4");
        for (int i = 0; i < 6; i++) {
            text.append(";ix").append(11 + i).append("m").append(1 + i).append("s").append(20 + i);
        }
        for (int i = 0; i < 8; i++) {
            text.append(";ta").append(i % 6).append("b").append((i + 1) % 6).append("w").append(1 + i).append("k1");
        }
        for (int i = 0; i < 4; i++) {
            text.append(";ba").append(5 - i).append("b0l").append(91 + i);
        }
        DriftSea sea = Check.sea(text.toString());
        for (int turned = -1; turned < 8; turned++) {
            sea.turn(turned);
            for (int i = 0; i < 6; i++) {
                long[] want = {11 + i, 50, 1 + i, i, 0, 0, 4, 1, 20 + i, 5};
                for (int what = 0; what < 10; what++) {
                    Edges.due("isle(" + i + ", " + what + ")", Check.isle(sea, i, what), want[what]);
                }
            }
            for (int i = 0; i < 8; i++) {
                int kind = i <= turned ? 0 : 1;
                int strength = 1 + i;
                int[] want = {i % 6, (i + 1) % 6, kind, strength, kind == 0 ? strength : -strength};
                for (int what = 0; what < 5; what++) {
                    Edges.due("tie(" + i + ", " + what + ")", sea.tie(i, what), want[what]);
                }
            }
            for (int i = 0; i < 4; i++) {
                int[] want = {5 - i, 0, 91 + i, 1};
                for (int what = 0; what < 4; what++) {
                    Edges.due("bridge(" + i + ", " + what + ")", sea.bridge(i, what), want[what]);
                }
            }
        }
        Edges.due("SEASON", sea.count(6), 0);
    }

    @Says("CLAUSES with ; between .. in any order")
    static void anyOrder() {
        List<String> orders = new ArrayList<>();
        order("", List.of("wf3", "ix7", "ix8", "tw5", "bl6"), orders);
        Edges.due("orders", orders.size(), 120);
        for (String text : orders) {
            DriftSea sea = Check.sea(text);
            Edges.due("FREIGHT of " + text, sea.count(8), 3);
            int first = text.indexOf("ix7") < text.indexOf("ix8") ? 7 : 8;
            Edges.due("first ISLE of " + text, Check.isle(sea, 0, 0), first);
            Edges.due("second ISLE of " + text, Check.isle(sea, 1, 0), 15 - first);
            Edges.due("TIE of " + text, sea.tie(0, 3), 5);
            Edges.due("BRIDGE of " + text, sea.bridge(0, 2), 6);
        }
    }

    private static void order(String text, List<String> left, List<String> orders) {
        if (left.isEmpty()) {
            orders.add(text.substring(1));
        }
        for (String clause : left) {
            List<String> others = new ArrayList<>(left);
            others.remove(clause);
            order(text + ";" + clause, others, orders);
        }
    }

    @Says("CLAUSES with ; between")
    static void between() {
        faultIs(";i;i", 0);
        faultIs("i;;i", 2);
        faultIs("i;i;", 4);
        faultIs("ii", 1);
        faultIs("ix1i", 3);
        faultIs("i,i", 1);
        faultIs("i;i:", 3);
    }

    // ---- items ----

    @Says("then ITEMS, none or more: a letter, each once at most in a CLAUSE")
    static void lettersOnce() {
        for (Object[] item : ITEMS) {
            char sort = (Character) item[0];
            String one = "" + item[1] + item[2];
            String text = sort + one + one + ";i;i;i";
            faultIs(text, 1 + one.length());
        }
        faultIs("ix1y2x1;i", 5);
        faultIs("ix1;ix1", NONE);
        faultIs("wf1;if1;i", 5);
        faultIs("wc9r1j9f9;ip9s9q9n3g3m9y9x9;i;tw9k1b0a1;bl9b0a1", NONE);
        faultIs("wf9j9r1c9;ix9y9m9g3n3q9s9p9;i;ta1b0k1w9;ba1b0l9", NONE);
    }

    @Says("a letter .. and a number (one or two digits)")
    static void oneOrTwoDigits() {
        for (Object[] item : ITEMS) {
            String start = "" + item[0] + item[1];
            faultIs(start, 2);
            faultIs(start + ";i;i", 2);
            faultIs(start + " ;i;i", 3);
            faultIs(start + start, 2);
            faultIs(start + "-1", 2);
            faultIs(start + "+1", 2);
            faultIs(start + "001", 4);
            faultIs(start + "1000", 4);
        }
        faultIs("ix/;i", 2);
        faultIs("ix:;i", 2);
        faultIs("ix0/;i", 3);
        faultIs("ix0:;i", 3);
    }

    /** A text in which one item of one clause is told so, and where it stands. */
    private static String told(char sort, char letter, String number) {
        String rest = sort == 'w' ? "" : "w;";
        String clause = "" + sort + letter + number;
        if (letter == 'a' && sort != 'i') {
            clause += number.endsWith("5") ? "b0" : "b5";
        } else if (letter == 'b' && sort != 'i') {
            clause += number.endsWith("5") ? "a0" : "a5";
        }
        int isles = sort == 'i' ? 5 : 6;
        return clause + ";" + rest + many("i", isles - 1) + "i";
    }

    private static long read(DriftSea sea, char sort, char letter) {
        switch (sort) {
            case 'w': return sea.count(8 + "fjrc".indexOf(letter));
            case 'i': return Check.isle(sea, 0, new int[] {0, 1, 2, 5, 6, 7, 8, 9}["xymgnqsp".indexOf(letter)]);
            case 't': return sea.tie(0, "abkw".indexOf(letter));
            default: return sea.bridge(0, "abl".indexOf(letter));
        }
    }

    private static void itemsOf(char sort) {
        for (Object[] item : ITEMS) {
            if ((Character) item[0] != sort) {
                continue;
            }
            char letter = (Character) item[1];
            int least = (Integer) item[2];
            int greatest = (Integer) item[3];
            for (int number = 0; number <= 99; number++) {
                boolean in = number >= least && number <= greatest;
                String[] ways = number < 10 ? new String[] {"" + number, "0" + number} : new String[] {"" + number};
                for (String way : ways) {
                    String text = told(sort, letter, way);
                    faultIs(text, in ? NONE : 1 + way.length());
                    if (in) {
                        Edges.due("read of " + text, read(Check.sea(text), sort, letter), number);
                    }
                }
            }
            String without = sort + ";i;i" + (sort == 'w' ? "" : ";w");
            Edges.due(letter + " of " + without, read(Check.sea(without), sort, letter), (Integer) item[4]);
        }
    }

    @Says("of w: f FREIGHT (0 .. 9; 1 without), j JOIN (0 .. 9; 0), r whether trade pulls (0, 1; 0), c SCAR (1 .. 99; 10)")
    static void itemsOfWater() {
        itemsOf('w');
        DriftSea none = Check.sea("i;i");
        int[] without = {1, 0, 0, 10};
        for (int what = 8; what <= 11; what++) {
            Edges.due("no w: count(" + what + ")", none.count(what), without[what - 8]);
        }
    }

    @Says("of i: x, y where it is (0 .. 99; 50), m MASS (1 .. 9; 1), g GOOD that it makes (0 .. 3; 0), "
        + "n NEED (0 .. 4; 4: none), q how much it needs (1 .. 9; 1), s STOCK each season (0 .. 99; 9), "
        + "p PRICE (0 .. 99; 5)")
    static void itemsOfIsle() {
        itemsOf('i');
    }

    @Says("of t: a, b its ISLES (0 .. 5; 0 and 1), k KIND (0 bargain, 1 quarrel; 0), w STRENGTH (1 .. 9; 1)")
    static void itemsOfTie() {
        itemsOf('t');
        Edges.due("KIND 0 is a bargain", Check.sea("ix0;ix9;tk0w3").tie(0, 4), 3);
        Edges.due("KIND 1 is a quarrel", Check.sea("ix0;ix9;tk1w3").tie(0, 4), -3);
    }

    @Says("of b: a, b its ISLES (0 .. 5; 0 and 1), l LENGTH (1 .. 99; 30)")
    static void itemsOfBridge() {
        itemsOf('b');
    }

    @Says("n NEED (0 .. 4; 4: none)")
    static void needFourIsNone() {
        for (int need = 0; need <= 3; need++) {
            DriftSea sea = Check.sea("in" + need + ";ig" + need);
            Edges.due("NEED " + need, sea.buys(0, 1), 1);
        }
        for (int good = 0; good <= 3; good++) {
            DriftSea sea = Check.sea("in4;ig" + good);
            Edges.due("NEED 4, GOOD " + good, sea.buys(0, 1), 0);
            Edges.due("it lacks nothing", sea.lacks(0), 0);
        }
    }

    @Says("w .. i .. t .. b .. : a letter (every other byte is a FAULT)")
    static void everyOtherByte() {
        for (int sign = 1; sign <= 255; sign++) {
            String c = String.valueOf((char) sign);
            faultIs(c, "witb ".indexOf(c) < 0 ? 0 : 1);
            faultIs("i" + c, "xymgnqsp; ".indexOf(c) < 0 ? 1 : 2);
            faultIs("w" + c, "fjrc; ".indexOf(c) < 0 ? 1 : 2);
            faultIs("t" + c, "abkw; ".indexOf(c) < 0 ? 1 : 2);
            faultIs("b" + c, "abl; ".indexOf(c) < 0 ? 1 : 2);
            faultIs("i;i;" + c, sign == ' ' ? 5 : "witb".indexOf(c) < 0 ? 4 : NONE);
            faultIs("i;ix" + c, c.matches("[0-9]") ? NONE : sign == ' ' ? 5 : 4);
            faultIs("i;ix1" + c, c.matches("[0-9 ]") ? NONE : "ymgnqsp;".indexOf(c) < 0 ? 5 : 6);
            faultIs("i;ix12" + c, sign == ' ' ? NONE : "ymgnqsp;".indexOf(c) < 0 ? 6 : 7);
        }
    }

    // ---- FAULT ----

    @Says("FAULT: the first byte at which no such TEXT can go on")
    static void firstByte() {
        for (int end = 0; end <= RICH.length(); end++) {
            String text = RICH.substring(0, end);
            int fault = Check.faultOf(0, text);
            boolean whole = fault == NONE;
            Edges.due("\"" + text + "\" ends too early or not", whole || fault == end, true);
            faultIs(text + "~", end);
            faultIs(text + "~;i;i", end);
        }
        faultIs("z;ix100;w;w", 0);
        faultIs("ix100;z", 4);
        faultIs("im0;ix100", 2);
    }

    @Says("the length, if it ends too early")
    static void endsTooEarly() {
        for (String text : new String[] {"", " ", "i;", "i; ", "i;i;", "i;i; ", "ix", "ix ", "i;ix", "i;i;tw", "i;i;wf "}) {
            faultIs(text, text.length());
        }
    }

    @Says("the length, if it ends .. with fewer than two ISLES")
    static void fewerThanTwo() {
        for (String text : new String[] {"w", "t", "b", "i", "ix1 ", "i;w", "i;t;b;w", "t;t;b;b", " w "}) {
            faultIs(text, text.length());
        }
        faultIs("i;w;i", NONE);
    }

    @Says("the length, if it ends .. with a TIE or a BRIDGE whose ISLES are alike or not told")
    static void alikeOrNotTold() {
        for (String sort : new String[] {"t", "b"}) {
            for (String items : new String[] {"a1", "b0", "a1b1", "b1a1", "a0b0", "a2", "b2", "a5", "b5", "a2b2", "a2b3"}) {
                faultIs("i;i;" + sort + items, 5 + items.length());
                faultIs(sort + items + ";i;i", 5 + items.length());
                faultIs("i;i;" + sort + items + "  ", 7 + items.length());
                faultIs("i;i;" + sort + items + ";" + sort, 7 + items.length());
                faultIs("i;i;" + sort + ";" + sort + items, 7 + items.length());
                faultIs("i;i;" + sort + items + ";z", 6 + items.length());
            }
            faultIs("i;i;" + sort + "a1b0", NONE);
            faultIs("i;i;" + sort + "a2;i", NONE);
            faultIs(sort + "a2;i;i;i", NONE);
            faultIs(sort + "a5b4;" + many("i", 5) + "i", NONE);
            faultIs(sort + "a4b5;" + many("i", 4) + "i", 15);
            faultIs(sort + "a6b4;" + many("i", 5) + "i", 2);
        }
        faultIs("i;i;ta1;b", 9);
        faultIs("i;i;t;ba1", 9);
        faultIs("i;i;ta1;ta1b0", 13);
    }

    @Says("a number out of bounds is wrong at its last digit, .. a third digit .. itself, whatever stands ahead of it")
    static void lastDigitOrThird() {
        faultIs("im0;i", 2);
        faultIs("im00;i", 3);
        faultIs("im000;i", 4);
        faultIs("im10;i", 3);
        faultIs("im100;i", 4);
        faultIs("im99", 3);
        faultIs("im999", 4);
        faultIs("ix099;i", 4);
        faultIs("wr2;i;i", 2);
        faultIs("wr02;i;i", 3);
        faultIs("wr002;i;i", 4);
        faultIs("ta6;i;i", 2);
        faultIs("ta06;i;i", 3);
        faultIs("ta006;i;i", 4);
        faultIs("im0z;i", 2);
        faultIs("im 0;i", 3);
        faultIs("im 10 ;i", 4);
    }

    @Says("a letter that was there, a second w, a seventh i, a ninth t, a fifth b .. at it")
    static void oneTooManyAtIt() {
        faultIs("ix1 x2;i", 4);
        faultIs("w; w;i;i", 3);
        faultIs(many("i", 6) + " i", 13);
        faultIs(many("t", 8) + " t", 17);
        faultIs(many("b", 4) + " b", 9);
    }

    @Says("Blanks (32) may stand between all signs of both, not within numbers")
    static void blanks() {
        Edges.due("without blanks", Check.faultOf(0, RICH), NONE);
        for (int gap = 0; gap <= RICH.length(); gap++) {
            boolean within = gap > 0 && gap < RICH.length() && isDigit(RICH.charAt(gap - 1)) && isDigit(RICH.charAt(gap));
            for (String blank : new String[] {" ", "   "}) {
                faultIs(RICH.substring(0, gap) + blank + RICH.substring(gap), within ? gap + blank.length() : NONE);
            }
            for (char other : new char[] {9, 10, 13, 31, 33, 160, '_'}) {
                faultIs(RICH.substring(0, gap) + other + RICH.substring(gap), gap);
            }
        }
        String wide = RICH.replaceAll("([^0-9])", " $1 ");
        DriftSea sea = new DriftSea();
        Check.tape(sea, wide);
        Edges.due("text(0) of \"" + wide + "\"", sea.text(0), 3);
        Edges.due("FREIGHT", sea.count(8), 3);
        Edges.due("y", Check.isle(sea, 0, 1), 22);
        Edges.due("PRICE", Check.isle(sea, 0, 9), 6);
        Edges.due("STRENGTH", sea.tie(0, 3), 7);
        Edges.due("LENGTH", sea.bridge(0, 2), 77);
    }

    private static boolean isDigit(char c) {
        return c >= '0' && c <= '9';
    }

    @Says("The FAULT of the TAPE as a SEA .. NONE: none (asking changes nothing)")
    static void askingChangesNothing() {
        DriftSea sea = Check.sea("ix1;ix2;tw3");
        Check.tape(sea, "wf9;ix7;ix8;i;i");
        Edges.due("fault(0)", sea.fault(0), NONE);
        Edges.due("fault(0) again", sea.fault(0), NONE);
        Edges.due("fault(1)", sea.fault(1), 0);
        Edges.due("the TAPE", sea.count(5), 15);
        Edges.due("ISLES", sea.count(0), 2);
        Edges.due("FREIGHT", sea.count(8), 1);
        Edges.due("x", Check.isle(sea, 0, 0), 1);
        Edges.due("TIES", sea.count(2), 1);
        Edges.due("then text(0)", sea.text(0), 4);
    }
}
