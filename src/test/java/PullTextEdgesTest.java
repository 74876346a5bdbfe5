import java.util.ArrayList;
import java.util.List;

/** What part 1 of the document's terms says of PULLS: each bound, and the next one outside of it. */
public final class PullTextEdgesTest {
    private static final int NONE = DriftSea.NONE;
    private static final String RICH = "y:(d>12|w=6&![k-1]<h)&m=3?[d+w]*2-n/17;y:!k=0?1250;y:h";

    public static void main(String[] args) throws ReflectiveOperationException {
        Edges.runAll(PullTextEdgesTest.class);
    }

    private static void faultIs(String text, int want) {
        Edges.due("fault(1) of \"" + text + "\"", Check.faultOf(1, text), want);
        DriftSea sea = new DriftSea();
        Check.tape(sea, text);
        Edges.due("text(1) of \"" + text + "\"", sea.text(1), want == NONE ? 0 : NONE);
        Edges.due("the TAPE behind \"" + text + "\"", sea.count(5), want == NONE ? 0 : text.length());
        Edges.due("PULLS behind \"" + text + "\"", sea.count(4), want == NONE ? 1 : 0);
    }

    /** d is 12, w 6, k 1, m 3, n 4, h 0. */
    private static int worth(String text) {
        DriftSea sea = Check.sea("ix0y0m3;ix7y5m4;tw6k1");
        Check.rule(sea, text);
        sea.pull(0);
        return sea.tie(0, 4);
    }

    private static void worthIs(String text, int want) {
        Edges.due("worth of \"" + text + "\"", worth(text), want);
    }

    private static void holds(String condition, boolean want) {
        worthIs("y:" + condition + "?1;y:2", want ? 1 : 2);
    }

    // ---- clauses ----

    @Says("PULLS (4 at most)")
    static void fourAtMost() {
        DriftSea sea = Check.sea("i;ix60;t");
        for (int pull = 0; pull < 4; pull++) {
            Edges.due("its number", Check.rule(sea, "y:" + (20 + pull)), pull);
            Edges.due("PULLS", sea.count(4), pull + 1);
        }
        Edges.due("a fifth", Check.rule(sea, "y:24"), NONE);
        Edges.due("PULLS still", sea.count(4), 4);
        Edges.due("its TAPE still", sea.count(5), 4);
        for (int pull = 0; pull < 4; pull++) {
            sea.pull(pull);
            Edges.due("each as it was told", sea.tie(0, 4), 20 + pull);
        }
        Edges.due("a fifth can't hold", sea.pull(4), false);
    }

    @Says("CLAUSES with ; between, one at least")
    static void oneAtLeast() {
        faultIs("", 0);
        faultIs("  ", 2);
        faultIs(";", 0);
        faultIs("y:1", NONE);
        faultIs("y:1;", 4);
        faultIs("y:1; ", 5);
        faultIs("y:1;;y:1", 4);
        faultIs("y:1y:1", 3);
        faultIs(";y:1", 0);
        // the TAPE at 240 has room for sixty of four bytes
        String most = "y:1>2?1;".repeat(29) + "y:7";
        faultIs(most, NONE);
        worthIs(most, 7);
        faultIs("y:1;".repeat(59) + "y:1", NONE);
        faultIs("y:1;".repeat(60), 240);
    }

    @Says("y, : , perhaps CONDITION ?, then SUM")
    static void signsOfClause() {
        faultIs("y", 1);
        faultIs("y:", 2);
        faultIs("y:1", NONE);
        faultIs("y:1=1", 5);
        faultIs("y:1=1;", 5);
        faultIs("y:1=1?", 6);
        faultIs("y:1=1?1", NONE);
        faultIs("y:1?1", 3);
        faultIs("y:?1", 2);
        faultIs("y:1=1?1?1", 7);
        faultIs("y:1=1?1=1", 7);
        faultIs("y1", 1);
        faultIs("yy:1", 1);
        faultIs("y::1", 2);
        faultIs("x:1", 0);
        faultIs("Y:1", 0);
    }

    @Says("TRUTHS with | between; UNITS with & between; ! UNIT, ( CONDITION ), or SUM, one of = < >, SUM")
    static void signsOfConditions() {
        faultIs("y:1=1|1=1&1=1|1=1?1", NONE);
        faultIs("y:1=1||1=1?1", 6);
        faultIs("y:1=1&&1=1?1", 6);
        faultIs("y:1=1&|1=1?1", 6);
        faultIs("y:1=1&?1", 6);
        faultIs("y:|1=1?1", 2);
        faultIs("y:1|1=1?1", 3);
        faultIs("y:1=1|1?1", 7);
        faultIs("y:!?1", 3);
        faultIs("y:!1?1", 4);
        faultIs("y:!1=1?1", NONE);
        faultIs("y:1=!1?1", 4);
        faultIs("y:1=(1)?1", 4);
        faultIs("y:()?1", 3);
        faultIs("y:(1)?1", 4);
        faultIs("y:(1=1)?1", NONE);
        faultIs("y:(1=1?1", 6);
        faultIs("y:(1=1))?1", 7);
        faultIs("y:1=1)?1", 5);
        faultIs("y:(1=1)=1?1", 7);
        faultIs("y:(1=1)+1?1", 7);
        faultIs("y:1==1?1", 4);
        faultIs("y:1<=1?1", 4);
        faultIs("y:1<>1?1", 4);
        faultIs("y:1=1=1?1", 5);
        faultIs("y:1=1!1=1?1", 5);
    }

    @Says("SUM: TERMS with + or - between; TERM: ATOMS with * or / between; ATOM: a number, a letter, [ SUM ]")
    static void signsOfSums() {
        faultIs("y:1+1-1*1/1", NONE);
        faultIs("y:+1", 2);
        faultIs("y:-1", 2);
        faultIs("y:*1", 2);
        faultIs("y:1+", 4);
        faultIs("y:1-", 4);
        faultIs("y:1*", 4);
        faultIs("y:1/", 4);
        faultIs("y:1+-1", 4);
        faultIs("y:1*/1", 4);
        faultIs("y:1d", 3);
        faultIs("y:d1", 3);
        faultIs("y:dd", 3);
        faultIs("y:d[1]", 3);
        faultIs("y:[]", 3);
        faultIs("y:[1]", NONE);
        faultIs("y:[1", 4);
        faultIs("y:[1=1]", 4);
        faultIs("y:[1)", 4);
        faultIs("y:(1=1]?1", 6);
        faultIs("y:1]", 3);
        faultIs("y:[!1=1]", 3);
        faultIs("y:[(1)]", 3);
    }

    @Says("(A CLAUSE that goes on with ! or ( behind its : has a CONDITION.)")
    static void opensCondition() {
        faultIs("y:(d)", 4);
        faultIs("y:(d)+1", 4);
        faultIs("y:(d=1)", 7);
        faultIs("y:(d=1);y:1", 7);
        faultIs("y:!d", 4);
        faultIs("y:!d=1", 6);
        faultIs("y:!(d=1)", 8);
        faultIs("y: ( d = 1 ) ", 13);
        faultIs("y:1;y:(d)", 8);
        faultIs("y:[d]", NONE);
        faultIs("y:[d]=1", 7);
    }

    @Says("At most six of ( [ ! within one another; a seventh of ( [ ! at it")
    static void sixWithinOneAnother() {
        List<String> openings = new ArrayList<>();
        chains("", openings);
        for (String opening : openings) {
            String round = opening.replaceAll("[^(]", "").replace('(', ')');
            String square = opening.replaceAll("[^\\[]", "").replace('[', ']');
            String text = "y:" + opening + "d" + square + "=1" + round + "?1";
            int seventh = opening.length() > 6 ? 8 : NONE;
            if (!opening.replace("[", "").isEmpty()) {
                faultIs(text, seventh);
            }
            faultIs("y:d=1?1;" + text, seventh == NONE ? NONE : seventh + 8);
        }
        for (int deep = 1; deep <= 8; deep++) {
            String bracket = "[".repeat(deep) + "d" + "]".repeat(deep);
            faultIs("y:" + bracket, deep > 6 ? 8 : NONE);
            faultIs("y:d=1?" + bracket, deep > 6 ? 12 : NONE);
            faultIs("y:d=" + bracket + "?1", deep > 6 ? 10 : NONE);
            faultIs("y:d+" + bracket, deep > 6 ? 10 : NONE);
            faultIs("y:d*" + bracket, deep > 6 ? 10 : NONE);
            faultIs("y:!!!d=" + bracket + "?1", deep > 3 ? 10 : NONE);
            faultIs("y:!!!" + bracket + "=1?1", deep > 3 ? 8 : NONE);
            faultIs("y:!!!d=1&d=" + bracket + "?1", deep > 6 ? 17 : NONE);
            faultIs("y:(((d=1&d=" + bracket + ")))?1", deep > 3 ? 14 : NONE);
        }
    }

    /** Signs that can stand within one another, up to seven: [ has only [ within it. */
    private static void chains(String chain, List<String> all) {
        if (!chain.isEmpty()) {
            all.add(chain);
        }
        if (chain.length() < 7) {
            if (!chain.endsWith("[")) {
                chains(chain + "(", all);
                chains(chain + "!", all);
            }
            chains(chain + "[", all);
        }
    }

    @Says("At most six of ( [ ! within one another (beside one another there may be more)")
    static void moreBesideOneAnother() {
        faultIs("y:" + "[d]+".repeat(9) + "[d]", NONE);
        faultIs("y:" + "(d=1)&".repeat(9) + "(d=1)?1", NONE);
        faultIs("y:" + "!d=1|".repeat(9) + "!d=1?1", NONE);
        faultIs("y:" + "([[d]]=1)|!!!d=1&".repeat(4) + "((d=1))?[[d]]*[[d]]*[[d]]*[[d]]", NONE);
        faultIs("y:((((((d=1))))))&((((((d=1))))))?[[[[[[d]]]]]]", NONE);
    }

    @Says("(the longest PULL: all that can wait for its second one does, six deep)")
    static void deepestWorth() {
        String start = "y:";
        String end = "";
        for (int i = 0; i < 3; i++) {
            start += "1=2|1=1&(";
            end = ")" + end;
        }
        start += "1=2|1=1&1=1+1*";
        worthIs(start + "[1+1*[1+1*[0-2]]]" + end + "?17;y:18", 17);
        worthIs(start + "[1+1*[1+1*[0-3]]]" + end + "?17;y:18", 18);
        String sum = "y:1+2*[1+2*[1+2*[1+2*[1+2*[1+2*[0-1]]]]]]";
        worthIs(sum, -1);
        faultIs(sum + "]", sum.length());
        worthIs("y:1+2*[1+2*[1+2*[1+2*[1+2*[1+2*1]]]]]", 99);
        worthIs("y:1+2*[1+2*[1+2*[1+2*[1+2*[1+2*1]]]]]-100", 27);
        worthIs("y:1-2*[1-2*[1-2*[1-2*[1-2*[1-2*1]]]]]", 1 - 2 * (1 - 2 * (1 - 2 * (1 - 2 * (1 - 2 * -1)))));
    }

    // ---- numbers ----

    @Says("a number (1 to 4 digits); a fifth one in a PULL .. itself")
    static void digits() {
        for (String number : new String[] {"0", "9", "00", "99", "000", "999", "0000", "9999"}) {
            faultIs("y:" + number, NONE);
            faultIs("y:d=" + number + "?[" + number + "]", NONE);
        }
        faultIs("y:00000", 6);
        faultIs("y:10000", 6);
        faultIs("y:99999", 6);
        faultIs("y:123456", 6);
        faultIs("y:d=99999?1", 8);
        faultIs("y:d=1?99999", 10);
        faultIs("y:[12345]", 7);
        worthIs("y:0007", 7);
        worthIs("y:9999-9950", 49);
        worthIs("y:10-9", 1);
        worthIs("y:1000/100", 10);
    }

    @Says("a letter (d w k m n h)")
    static void letters() {
        worthIs("y:d", 12);
        worthIs("y:w", 6);
        worthIs("y:k", 1);
        worthIs("y:m", 3);
        worthIs("y:n", 4);
        worthIs("y:h", 0);
        for (int sign = 1; sign <= 255; sign++) {
            String c = String.valueOf((char) sign);
            faultIs(c, "y ".indexOf(c) < 0 ? 0 : 1);
            faultIs("y" + c, ": ".indexOf(c) < 0 ? 1 : 2);
            boolean atom = "dwkmnh0123456789".indexOf(c) >= 0;
            faultIs("y:" + c, atom ? NONE : "!([ ".indexOf(c) < 0 ? 2 : 3);
            faultIs("y:d" + c, sign == ' ' ? NONE : "+-*/=<>;".indexOf(c) < 0 ? 3 : 4);
            faultIs("y:[" + c, !atom && "[ ".indexOf(c) < 0 ? 3 : 4);
            faultIs("y:[d" + c, sign == ']' ? NONE : "+-*/ ".indexOf(c) < 0 ? 4 : 5);
            faultIs("y:[d]" + c, sign == ' ' ? NONE : "+-*/=<>;".indexOf(c) < 0 ? 5 : 6);
            faultIs("y:!" + c, !atom && "!([ ".indexOf(c) < 0 ? 3 : 4);
            faultIs("y:(" + c, !atom && "!([ ".indexOf(c) < 0 ? 3 : 4);
            faultIs("y:(d=1)" + c, "|&? ".indexOf(c) < 0 ? 7 : 8);
            faultIs("y:(d=w" + c, "+-*/|&) ".indexOf(c) < 0 ? 6 : 7);
            faultIs("y:d=" + c, !atom && "[ ".indexOf(c) < 0 ? 4 : 5);
            faultIs("y:d=w" + c, "+-*/|&? ".indexOf(c) < 0 ? 5 : 6);
            faultIs("y:d=w?" + c, atom ? NONE : "[ ".indexOf(c) < 0 ? 6 : 7);
            faultIs("y:d=w?d" + c, sign == ' ' ? NONE : "+-*/;".indexOf(c) < 0 ? 7 : 8);
            faultIs("y:9999" + c, sign == ' ' ? NONE : "+-*/=<>;".indexOf(c) < 0 ? 6 : 7);
            faultIs("y:999" + c, c.matches("[0-9 ]") ? NONE : "+-*/=<>;".indexOf(c) < 0 ? 5 : 6);
        }
    }

    @Says("Behind each sign numbers are within -1,000,000 .. 1,000,000")
    static void withinAMillion() {
        String least = "[0-1000*1000]";
        String greatest = "[1000*1000]";
        // a million is allowed, and one more is held at it
        worthIs("y:999*1001+1-999*1001", 1);
        worthIs("y:999*1001+2-999*1001", 1);
        worthIs("y:0-999*1001-1+999*1001", -1);
        worthIs("y:0-999*1001-2+999*1001", -1);
        worthIs("y:1000*1000-999*1001", 1);
        worthIs("y:1001*1000-999*1001", 1);
        worthIs("y:9999*9999-999*1001", 1);
        worthIs("y:[0-1001]*1000+999*1001", -1);
        worthIs("y:[0-9999]*9999+999*1001", -1);
        worthIs("y:1001*[0-1000]+999*1001", -1);
        worthIs("y:[0-1001]*[0-1000]-999*1001", 1);
        // far beyond an int
        worthIs("y:" + greatest + "*" + greatest + "-999*1001", 1);
        worthIs("y:" + least + "*" + greatest + "+999*1001", -1);
        worthIs("y:" + least + "*" + least + "-999*1001", 1);
        worthIs("y:" + greatest + "+" + greatest + "-999*1001", 1);
        worthIs("y:" + least + "-" + greatest + "+999*1001", -1);
        worthIs("y:" + least + "+" + least + "+999*1001", -1);
        worthIs("y:" + greatest + "-" + least + "-999*1001", 1);
        // behind each sign at once, not at the end
        worthIs("y:1000*1000+5-5-999*1001", -4);
        worthIs("y:0-1000*1000-5+5+999*1001", 4);
        worthIs("y:1000*1001/1001", 99);
        worthIs("y:1000*1001/1001-950", 49);
        // in CONDITIONS, too
        holds("1001*1000=1000*1000", true);
        holds("999*1001<1000*1000", true);
        holds("1000*1000+1>1000*1000", false);
        holds("0-1001*1000=0-1000*1000", true);
    }

    @Says("/ cuts towards 0, by 0 gives 0")
    static void division() {
        worthIs("y:7/2", 3);
        worthIs("y:[0-7]/2", -3);
        worthIs("y:7/[0-2]", -3);
        worthIs("y:[0-7]/[0-2]", 3);
        worthIs("y:1/2", 0);
        worthIs("y:[0-1]/2", 0);
        worthIs("y:8/2", 4);
        worthIs("y:[0-8]/2", -4);
        worthIs("y:7/0", 0);
        worthIs("y:[0-7]/0", 0);
        worthIs("y:0/0", 0);
        worthIs("y:d/h", 0);
        worthIs("y:d/[w-6]", 0);
        worthIs("y:d/0+5", 5);
        worthIs("y:5-d/0*3", 5);
        worthIs("y:[1000*1000]/[0-1]", -99);
        holds("7/0=0", true);
    }

    @Says("(* and / ahead of + and -, from the left each)")
    static void fromTheLeft() {
        worthIs("y:9-5-3", 1);
        worthIs("y:9-5+3", 7);
        worthIs("y:60/5/3", 4);
        worthIs("y:7/2*2", 6);
        worthIs("y:7*2/2", 7);
        worthIs("y:2+3*4", 14);
        worthIs("y:2*3+4", 10);
        worthIs("y:20-6/2", 17);
        worthIs("y:[2+3]*4", 20);
        worthIs("y:20-[6-2]", 16);
    }

    @Says("one of = < >")
    static void comparisons() {
        for (int by = -1; by <= 1; by++) {
            String other = by < 0 ? "d-1" : "d+" + by;
            holds(other + "=d", by == 0);
            holds(other + "<d", by < 0);
            holds(other + ">d", by > 0);
        }
        holds("0-1<0", true);
        holds("0-1>0", false);
        holds("0=0", true);
        String[] alike = {"1=1", "1<2", "2>1", "2=2&1<2", "(2>1)", "!1>2"};
        String[] unlike = {"1=2", "2<1", "1>2", "1<1", "2>2", "!1<2"};
        for (String one : alike) {
            holds("!" + one, false);
            for (String other : alike) {
                holds(one + "&" + other, true);
                holds("(" + one + ")&!(" + other + ")", false);
            }
            for (String other : unlike) {
                holds(one + "&" + other, false);
                holds(one + "|" + other, true);
                holds(other + "|" + one, true);
            }
        }
    }

    @Says("TRUTHS with | between; UNITS with & between; ! UNIT")
    static void truths() {
        String[] is = {"1=2", "1=1"};
        for (int a = 0; a < 2; a++) {
            holds("!" + is[a], a == 0);
            holds("!!" + is[a], a == 1);
            holds("(" + is[a] + ")", a == 1);
            for (int b = 0; b < 2; b++) {
                holds(is[a] + "&" + is[b], a + b == 2);
                holds(is[a] + "|" + is[b], a + b > 0);
                holds("!" + is[a] + "&" + is[b], a == 0 && b == 1);
                holds("!" + is[a] + "|" + is[b], a == 0 || b == 1);
                holds("!(" + is[a] + "|" + is[b] + ")", a + b == 0);
                for (int c = 0; c < 2; c++) {
                    holds(is[a] + "|" + is[b] + "&" + is[c], a == 1 || b + c == 2);
                    holds(is[a] + "&" + is[b] + "|" + is[c], c == 1 || a + b == 2);
                    holds("(" + is[a] + "|" + is[b] + ")&" + is[c], c == 1 && a + b > 0);
                    holds(is[a] + "&(" + is[b] + "|" + is[c] + ")", a == 1 && b + c > 0);
                }
            }
        }
    }

    @Says("WORTH: the SUM of the first CLAUSE whose CONDITION holds (or has none), 0 without")
    static void firstThatHolds() {
        worthIs("y:1=1?5;y:1=1?6", 5);
        worthIs("y:1=2?5;y:1=1?6", 6);
        worthIs("y:1=2?5;y:6", 6);
        worthIs("y:5;y:6", 5);
        worthIs("y:1=2?5;y:6;y:1=1?7", 6);
        worthIs("y:1=2?5", 0);
        worthIs("y:1=2?5;y:1=2?6;y:1=2?7", 0);
        worthIs("y:1=2?5;y:1=2?6;y:1=1?7;y:8", 7);
    }

    @Says("Blanks (32) may stand between all signs of both, not within numbers")
    static void blanks() {
        Edges.due("without blanks", worth(RICH), worth(RICH.replaceAll("([^0-9])", " $1 ")));
        Edges.due("by the first CLAUSE", worth(RICH), 36);
        for (int gap = 0; gap <= RICH.length(); gap++) {
            boolean within = gap > 0 && gap < RICH.length() && isDigit(RICH.charAt(gap - 1)) && isDigit(RICH.charAt(gap));
            for (String blank : new String[] {" ", "   "}) {
                faultIs(RICH.substring(0, gap) + blank + RICH.substring(gap), within ? gap + blank.length() : NONE);
            }
            for (char other : new char[] {9, 10, 13, 31, 34, 160, '_'}) {
                faultIs(RICH.substring(0, gap) + other + RICH.substring(gap), gap);
            }
        }
    }

    private static boolean isDigit(char c) {
        return c >= '0' && c <= '9';
    }

    @Says("FAULT: the first byte at which no such TEXT can go on (the length, if it ends too early)")
    static void firstByte() {
        for (int end = 0; end <= RICH.length(); end++) {
            String text = RICH.substring(0, end);
            int fault = Check.faultOf(1, text);
            Edges.due("\"" + text + "\" ends too early or not", fault == NONE || fault == end, true);
            faultIs(text + "~", end);
            faultIs(text + "~;y:1", end);
        }
        faultIs("y:(d);y:12345;z", 4);
        faultIs("i;i", 0);
    }

    @Says("held within -99 .. 99")
    static void pullHeld() {
        int[] numbers = {0, 1, 98, 99, 100, 101, 9999};
        for (int number : numbers) {
            worthIs("y:" + number, Math.min(99, number));
            worthIs("y:0-" + number, Math.max(-99, -number));
        }
        worthIs("y:1000*1000", 99);
        worthIs("y:0-1000*1000", -99);
    }
}
