import java.util.HashMap;
import java.util.List;
import java.util.Map;
import java.util.function.Supplier;

/**
 * "What is refused answers as told and changes nothing": for every call each bound of each argument, the next number
 * outside of it and the ends of int, what is alike, what is empty and what is full.
 */
public final class RefusedTest {
    private static final int NONE = DriftSea.NONE;
    private static final int HIDDEN = DriftSea.HIDDEN;
    private static final long THROWN = Check.THROWN;

    /** One call with its arguments. */
    private interface Ask {
        long on(DriftSea sea, int[] a);
    }

    /** What a call answers when it is refused, and of each argument the least, the greatest, and one between. */
    private record Call(String name, long refused, Supplier<DriftSea> from, Ask ask, int[]... bounds) { }

    private static final int[] ISLE = {0, 3, 1};
    private static final int[] OTHER = {0, 3, 2};
    private static final int[] TIE = {0, 2, 1};
    private static final int[] TWO = {0, 1, 1};
    private static final int[] R = {0, 999, 60};

    private static final Call[] CHANGES = {
        new Call("end", 0, RefusedTest::full, (s, a) -> s.end(a[0]) ? 1 : 0, new int[] {0, 7, 3}),
        new Call("pull", 0, RefusedTest::full, (s, a) -> s.pull(a[0]) ? 1 : 0, new int[] {-1, 1, 0}),
        new Call("turn", 0, RefusedTest::full, (s, a) -> s.turn(a[0]) ? 1 : 0, TIE),
        new Call("price", 0, RefusedTest::full, (s, a) -> s.price(a[0], a[1]) ? 1 : 0, ISLE, new int[] {0, 99, 50}),
        new Call("chance", 0, RefusedTest::full, (s, a) -> s.chance(a[0], a[1]) ? 1 : 0, TWO, new int[] {0, 99, 50}),
        new Call("go", NONE, RefusedTest::full, (s, a) -> s.go(a[0]), new int[] {1, 60, 2}),
        new Call("years", NONE, RefusedTest::full, (s, a) -> s.years(a[0], 7L), new int[] {1, 60, 2}),
        new Call("chart", NONE, RefusedTest::full, (s, a) -> s.chart(a[0], a[1], a[2], a[3]), new int[] {1, 20, 5}, ISLE,
            new int[] {-999, 999, 7}, new int[] {-999, 999, 8}),
    };

    private static final Call[] QUESTIONS = {
        new Call("fault", -2, RefusedTest::full, (s, a) -> s.fault(a[0]), TWO),
        new Call("isle", THROWN, RefusedTest::full, (s, a) -> Check.isle(s, a[0], a[1]), ISLE, new int[] {0, 9, 4}),
        new Call("tie", HIDDEN, RefusedTest::full, (s, a) -> s.tie(a[0], a[1]), TIE, new int[] {0, 4, 2}),
        new Call("bridge", NONE, RefusedTest::full, (s, a) -> s.bridge(a[0], a[1]), TWO, new int[] {0, 3, 2}),
        new Call("far", NONE, RefusedTest::full, (s, a) -> s.far(a[0], a[1]), ISLE, OTHER),
        new Call("log", NONE, RefusedTest::full, (s, a) -> s.log(a[0], a[1]), new int[] {0, 4, 2}, new int[] {0, 2, 1}),
        new Call("led", HIDDEN, RefusedTest::full, (s, a) -> s.led(a[0], a[1], a[2]), ISLE, TIE, TWO),
        new Call("drift", HIDDEN, RefusedTest::full, (s, a) -> s.drift(a[0], a[1]), ISLE, TWO),
        new Call("buys", NONE, RefusedTest::full, (s, a) -> s.buys(a[0], a[1]), ISLE, OTHER),
        new Call("pays", NONE, RefusedTest::full, (s, a) -> s.pays(a[0]), ISLE),
        new Call("lacks", NONE, RefusedTest::full, (s, a) -> s.lacks(a[0]), ISLE),
        new Call("monopoly", NONE, RefusedTest::allSell, (s, a) -> s.monopoly(a[0], a[1]), new int[] {0, 3, 1}, TWO),
        new Call("undercut", NONE, RefusedTest::allBuy, (s, a) -> s.undercut(a[0], a[1]), ISLE, OTHER),
        new Call("ahead", HIDDEN, RefusedTest::full, (s, a) -> s.ahead(a[0], a[1], a[2]), ISLE, new int[] {1, 60, 9},
            new int[] {0, 2, 1}),
        new Call("rest", NONE, RefusedTest::atRest, (s, a) -> s.rest(a[0]), new int[] {0, 60, 5}),
        new Call("round", NONE, RefusedTest::atRest, (s, a) -> s.round(a[0], a[1]), new int[] {1, 60, 5}, TWO),
        new Call("one", NONE, RefusedTest::together, (s, a) -> s.one(a[0], a[1], a[2]), ISLE, OTHER, new int[] {1, 60, 5}),
        new Call("nearest", NONE, RefusedTest::full, (s, a) -> s.nearest(a[0], a[1], a[2], a[3]), ISLE, OTHER,
            new int[] {0, 60, 5}, TWO),
        new Call("snap", NONE, RefusedTest::snapping, (s, a) -> s.snap(a[0]), TWO),
        new Call("sail", NONE, RefusedTest::together, (s, a) -> s.sail(a[0], a[1], a[2], a[3]), ISLE, OTHER,
            new int[] {1, 99, 5}, TWO),
        new Call("haste", NONE, RefusedTest::together, (s, a) -> s.haste(a[0], a[1], a[2]), ISLE, OTHER, new int[] {1, 60, 5}),
        new Call("treaty far, n, STRENGTH", NONE, RefusedTest::together, (s, a) -> s.treaty(12, a[0], a[1], a[2]), R,
            new int[] {1, 20, 5}, new int[] {1, 9, 5}),
        new Call("treaty two", NONE, RefusedTest::together, (s, a) -> s.treaty(10 * a[0] + a[1], 5, 5, 5), ISLE, OTHER),
        new Call("bicker far, n, STRENGTH, what", NONE, RefusedTest::together,
            (s, a) -> s.bicker(12, 0, a[0], a[1], a[2], a[3]), R, new int[] {1, 6, 2}, new int[] {1, 9, 5}, TWO),
        new Call("bicker near", NONE, RefusedTest::apart999, (s, a) -> s.bicker(1, a[0], 999, 2, 1, 0), R),
        new Call("bicker two", NONE, RefusedTest::together, (s, a) -> s.bicker(10 * a[0] + a[1], 0, 5, 2, 5, 0), ISLE, OTHER),
        new Call("fits", NONE, RefusedTest::atRest, (s, a) -> s.fits(a[0]), new int[] {-1, 7, 4}),
        new Call("secret", NONE, RefusedTest::atRest, (s, a) -> s.secret(a[0]), new int[] {-1, 35, 4}),
        new Call("sees", NONE, RefusedTest::full, (s, a) -> s.sees(a[0], a[1]), ISLE, R),
        new Call("everywhere", NONE, RefusedTest::full, (s, a) -> s.everywhere(a[0]), R),
        new Call("when", NONE, RefusedTest::together, (s, a) -> s.when(a[0], a[1], a[2]), ISLE, R, new int[] {0, 60, 5}),
        new Call("lands", NONE, RefusedTest::full, (s, a) -> s.lands(a[0], a[1]), R, TWO),
        new Call("land", NONE, RefusedTest::full, (s, a) -> s.land(a[0], a[1]), ISLE, R),
        new Call("wide", NONE, RefusedTest::full, (s, a) -> s.wide(a[0]), TWO),
        new Call("count", HIDDEN, RefusedTest::full, (s, a) -> s.count(a[0]), new int[] {0, 14, 6}),
    };

    private static final Map<Supplier<DriftSea>, String> TRAILS = new HashMap<>();

    public static void main(String[] args) throws ReflectiveOperationException {
        Edges.runAll(RefusedTest.class);
    }

    // ---- seas to be refused by ----

    private static void tell(DriftSea sea) {
        Check.rule(sea, "y:w-2*w*k");
        Check.rule(sea, "y:h+w");
        sea.pull(0);
        sea.chance(0, 60);
        sea.chance(1, 70);
        Check.tape(sea, "y:h*3-d");
    }

    /** No SEA, but all that can be without one. */
    private static DriftSea empty() {
        DriftSea sea = new DriftSea();
        tell(sea);
        return sea;
    }

    private static DriftSea of(String text) {
        DriftSea sea = Check.sea(text);
        tell(sea);
        return sea;
    }

    /** Four ISLES, three TIES, two BRIDGES, two PULLS, five SEASONS, two CHARTS, an IMAGE of the third SEASON. */
    private static DriftSea full() {
        DriftSea sea = of("wf2j1r1c3;ix10y10m2g1n0q3;ix20y12g0n1q5s4;ix33y3m3g1n2s2;ix70y70g2;"
            + "ta0b1w3;ta1b2k1w2;ta0b3w9;ba0b1l9;ba0b3l99");
        sea.price(2, 7);
        sea.go(3);
        sea.turn(1);
        sea.image();
        sea.price(3, 8);
        sea.go(2);
        sea.chart(1, 3, sea.ahead(3, 1, 0), sea.ahead(3, 1, 1));
        sea.chart(2, 1, sea.ahead(1, 2, 0), sea.ahead(1, 2, 1));
        return sea;
    }

    /** Nothing moves, as all are far from one another and no TIE has a PULL. */
    private static DriftSea atRest() {
        DriftSea sea = of("ix10y10;ix20y12;ix33y3;ix70y70;t;t;t;b;b");
        Check.rule(sea, "y:0");
        sea.pull(2);
        return sea;
    }

    /** All at one place: one HEAD behind one SEASON. */
    private static DriftSea together() {
        return of("i;i;i;i;t;t;t;b;b");
    }

    private static DriftSea allSell() {
        return of("wf0;ig0n1;ig1n2;ig2n3;ig3n0;t;t;t;b;b");
    }

    private static DriftSea allBuy() {
        return of("wf0;ig0n0q9s99;ig0n0q9s99;ig0n0q9s99;ig0n0q9s99;t;t;t;b;b");
    }

    private static DriftSea snapping() {
        return of("ix0;ix60;ix70;ix80;t;t;t;bl50;ba2b3l9");
    }

    /** ISLE 0 is too heavy to be moved; ISLE 1 goes to the bound, 999 from it. */
    private static DriftSea apart999() {
        DriftSea sea = of("ix0y0m9;ix9y0;t");
        Check.rule(sea, "y:0-8");
        sea.pull(2);
        sea.go(60);
        sea.go(60);
        sea.go(60);
        return sea;
    }

    // ---- what is asked of them ----

    private static String trailOf(Supplier<DriftSea> from) {
        return TRAILS.computeIfAbsent(from, key -> Trail.of(key.get()));
    }

    private static void refuses(String call, Supplier<DriftSea> from, long refused, Ask ask, int... a) {
        DriftSea sea = from.get();
        Edges.due(call + " is refused", ask.on(sea, a), refused);
        Edges.due(call + " changed nothing", Trail.of(sea).equals(trailOf(from)), true);
    }

    private static int[] samples(Call call) {
        int[] a = new int[call.bounds.length];
        for (int k = 0; k < a.length; k++) {
            a[k] = call.bounds[k][2];
        }
        return a;
    }

    private static String named(Call call, int[] a) {
        return call.name + java.util.Arrays.toString(a);
    }

    private static void outside(Call call) {
        for (int k = 0; k < call.bounds.length; k++) {
            int[] bound = call.bounds[k];
            for (int v : new int[] {bound[0] - 1, bound[1] + 1, bound[1] + 10000, bound[0] - 10000, Edges.LEAST, Edges.MOST}) {
                if (call.name.endsWith("two") && (v < -9 || v > 9)) {
                    continue;
                }
                int[] a = samples(call);
                a[k] = v;
                refuses(named(call, a), call.from, call.refused, call.ask, a);
            }
        }
    }

    private static void within(Call call, boolean changes) {
        for (int k = 0; k < call.bounds.length; k++) {
            for (int v : call.bounds[k]) {
                int[] a = samples(call);
                a[k] = v;
                DriftSea sea = call.from.get();
                Edges.due(named(call, a) + " is not refused", call.ask.on(sea, a) != call.refused, true);
                if (!changes) {
                    Edges.due(named(call, a) + " changes nothing", Trail.of(sea).equals(trailOf(call.from)), true);
                }
            }
        }
    }

    @Says("What is refused answers as told and changes nothing: what changes something")
    static void changesOutside() {
        for (Call call : CHANGES) {
            outside(call);
        }
    }

    @Says("What is refused answers as told and changes nothing: what asks something")
    static void questionsOutside() {
        for (Call call : QUESTIONS) {
            outside(call);
        }
    }

    @Says("The least and the greatest that is allowed: what changes something")
    static void changesWithin() {
        for (Call call : CHANGES) {
            within(call, true);
        }
    }

    @Says("The least and the greatest that is allowed: what asks something (and asking changes nothing)")
    static void questionsWithin() {
        for (Call call : QUESTIONS) {
            within(call, false);
        }
    }

    @Says("no SEA")
    static void noSea() {
        List<String> without = List.of("end", "pull", "chance", "fault", "count");
        for (Call[] calls : new Call[][] {CHANGES, QUESTIONS}) {
            for (Call call : calls) {
                if (!without.contains(call.name)) {
                    refuses("without a SEA " + named(call, samples(call)), RefusedTest::empty, call.refused, call.ask,
                        samples(call));
                }
            }
        }
        refuses("fits(NONE)", RefusedTest::empty, NONE, (s, a) -> s.fits(NONE));
        refuses("secret(NONE)", RefusedTest::empty, NONE, (s, a) -> s.secret(NONE));
        refuses("undo", RefusedTest::empty, NONE, (s, a) -> s.undo());
        refuses("image", RefusedTest::empty, NONE, (s, a) -> s.image());
        refuses("back", RefusedTest::empty, NONE, (s, a) -> s.back());
        refuses("tie 0", RefusedTest::empty, HIDDEN, (s, a) -> s.tie(0, 0));
        refuses("isle 0", RefusedTest::empty, THROWN, (s, a) -> Check.isle(s, 0, 0));
    }

    @Says("alike")
    static void alike() {
        for (int isle = 0; isle <= 3; isle++) {
            refuses("buys", RefusedTest::full, NONE, (s, a) -> s.buys(a[0], a[0]), isle);
            refuses("undercut", RefusedTest::allBuy, NONE, (s, a) -> s.undercut(a[0], a[0]), isle);
            refuses("one", RefusedTest::together, NONE, (s, a) -> s.one(a[0], a[0], 5), isle);
            refuses("nearest", RefusedTest::full, NONE, (s, a) -> s.nearest(a[0], a[0], 5, 0), isle);
            refuses("nearest, behind how many", RefusedTest::full, NONE, (s, a) -> s.nearest(a[0], a[0], 5, 1), isle);
            refuses("sail", RefusedTest::together, NONE, (s, a) -> s.sail(a[0], a[0], 5, 0), isle);
            refuses("sail, overtaken", RefusedTest::together, NONE, (s, a) -> s.sail(a[0], a[0], 5, 1), isle);
            refuses("haste", RefusedTest::together, NONE, (s, a) -> s.haste(a[0], a[0], 5), isle);
            refuses("treaty", RefusedTest::together, NONE, (s, a) -> s.treaty(11 * a[0], 5, 5, 5), isle);
            refuses("bicker", RefusedTest::together, NONE, (s, a) -> s.bicker(11 * a[0], 0, 5, 2, 5, 0), isle);
            Edges.due("far of one alone", full().far(isle, isle), 0);
        }
    }

    @Says("two: 10 times the one and the other")
    static void twos() {
        for (int two = -60; two <= 120; two++) {
            boolean can = two >= 0 && two / 10 <= 3 && two % 10 <= 3 && two / 10 != two % 10;
            Edges.due("treaty(" + two + ")", together().treaty(two, 5, 5, 5), can ? 0 : NONE);
            Edges.due("bicker(" + two + ")", together().bicker(two, 0, 5, 2, 5, 0), can ? 0 : NONE);
        }
        for (int two : new int[] {Edges.LEAST, -12, -1, 4, 40, 34, 43, 100, 1001, 1012, Edges.MOST, Edges.MOST - 6}) {
            refuses("treaty " + two, RefusedTest::together, NONE, (s, a) -> s.treaty(a[0], 5, 5, 5), two);
            refuses("bicker " + two, RefusedTest::together, NONE, (s, a) -> s.bicker(a[0], 0, 5, 2, 5, 0), two);
        }
    }

    // ---- by its state ----

    private static DriftSea fullTape() {
        DriftSea sea = full();
        Check.tape(sea, "y:7" + " ".repeat(237));
        return sea;
    }

    private static DriftSea nearlyFullTape() {
        DriftSea sea = full();
        Check.tape(sea, "y:7" + " ".repeat(218));
        return sea;
    }

    @Says("feed: NONE: more than 240")
    static void feedTooMany() {
        int four = 0x31313131;
        refuses("one more", RefusedTest::fullTape, NONE, (s, a) -> s.feed(0, 0, 0, 0, 1));
        refuses("one more, the highest first", RefusedTest::fullTape, NONE, (s, a) -> s.feed(0x7F000000, 0, 0, 0, 0));
        refuses("the least int", RefusedTest::fullTape, NONE, (s, a) -> s.feed(0, Edges.LEAST, 0, 0, 0));
        refuses("the greatest int", RefusedTest::fullTape, NONE, (s, a) -> s.feed(0, 0, Edges.MOST, 0, 0));
        refuses("twenty more", RefusedTest::fullTape, NONE, (s, a) -> s.feed(four, four, four, four, four));
        refuses("twenty where 19 fit", RefusedTest::nearlyFullTape, NONE, (s, a) -> s.feed(four, four, four, four, four));
        Edges.due("none more", fullTape().feed(0, 0, 0, 0, 0), 240);
        Edges.due("19 where 19 fit", nearlyFullTape().feed(four, four, four, four, 0x313131), 240);
        Edges.due("then none more", fullTape().count(5), 240);
    }

    private static DriftSea faulty() {
        DriftSea sea = full();
        Check.tape(sea, "y:7;z");
        return sea;
    }

    private static DriftSea emptyTape() {
        DriftSea sea = full();
        sea.end(0);
        return sea;
    }

    private static DriftSea fourPulls() {
        DriftSea sea = full();
        Check.rule(sea, "y:11");
        Check.rule(sea, "y:12");
        Check.tape(sea, "y:13");
        return sea;
    }

    @Says("text: NONE: a FAULT, no such sort, there are four PULLS")
    static void texts() {
        refuses("a FAULT of a SEA", RefusedTest::full, NONE, (s, a) -> s.text(0));
        refuses("a FAULT of both as a SEA", RefusedTest::faulty, NONE, (s, a) -> s.text(0));
        refuses("a FAULT of both as a PULL", RefusedTest::faulty, NONE, (s, a) -> s.text(1));
        refuses("an empty TAPE as a SEA", RefusedTest::emptyTape, NONE, (s, a) -> s.text(0));
        refuses("an empty TAPE as a PULL", RefusedTest::emptyTape, NONE, (s, a) -> s.text(1));
        refuses("without a SEA", RefusedTest::empty, NONE, (s, a) -> s.text(0));
        for (int sort : new int[] {-1, 2, 10, -10, Edges.LEAST, Edges.MOST}) {
            refuses("no such sort", RefusedTest::full, NONE, (s, a) -> s.text(a[0]), sort);
            refuses("no such FAULT", RefusedTest::full, -2, (s, a) -> s.fault(a[0]), sort);
        }
        refuses("there are four PULLS", RefusedTest::fourPulls, NONE, (s, a) -> s.text(1));
        Edges.due("with two a third", full().text(1), 2);
        DriftSea sea = full();
        Check.rule(sea, "y:11");
        Edges.due("with three a fourth", Check.rule(sea, "y:12"), 3);
    }

    @Says("price, chance: False: .. it is so")
    static void itIsSo() {
        for (int isle = 0; isle <= 3; isle++) {
            refuses("price", RefusedTest::full, 0, (s, a) -> s.price(a[0], a[1]) ? 1 : 0, isle, new int[] {5, 5, 7, 8}[isle]);
        }
        refuses("STORM", RefusedTest::full, 0, (s, a) -> s.chance(0, 60) ? 1 : 0);
        refuses("SALT", RefusedTest::full, 0, (s, a) -> s.chance(1, 70) ? 1 : 0);
        DriftSea sea = new DriftSea();
        Edges.due("STORM is 0 at first", sea.chance(0, 0), false);
        Edges.due("SALT is 0 at first", sea.chance(1, 0), false);
        Edges.due("they are two", full().chance(0, 70), true);
    }

    private static DriftSea nothingToUndo() {
        DriftSea sea = full();
        for (int i = 0; i < 5; i++) {
            sea.undo();
        }
        return sea;
    }

    private static DriftSea isBack() {
        DriftSea sea = full();
        sea.back();
        return sea;
    }

    @Says("undo: NONE: none")
    static void nothingUndone() {
        refuses("five of five are undone", RefusedTest::nothingToUndo, NONE, (s, a) -> s.undo());
        refuses("BACK: no SEASON can be UNDONE then", RefusedTest::isBack, NONE, (s, a) -> s.undo());
        refuses("no SEASON yet", RefusedTest::atRest, NONE, (s, a) -> s.undo());
    }

    private static DriftSea anotherSea() {
        DriftSea sea = full();
        Check.tape(sea, "ix3;ix9;tw2");
        sea.text(0);
        Check.tape(sea, "y:h*3-d");
        return sea;
    }

    @Says("back: NONE: no IMAGE of this SEA")
    static void noImage() {
        refuses("none yet", RefusedTest::atRest, NONE, (s, a) -> s.back());
        refuses("one of another SEA", RefusedTest::anotherSea, NONE, (s, a) -> s.back());
        refuses("a TIE of another SEA", RefusedTest::anotherSea, HIDDEN, (s, a) -> s.tie(1, 0));
        refuses("an ISLE of another SEA", RefusedTest::anotherSea, THROWN, (s, a) -> Check.isle(s, 2, 0));
        refuses("a BRIDGE of another SEA", RefusedTest::anotherSea, NONE, (s, a) -> s.bridge(0, 0));
        refuses("a SEASON of another SEA", RefusedTest::anotherSea, NONE, (s, a) -> s.undo());
        refuses("what is put by of another SEA", RefusedTest::anotherSea, NONE, (s, a) -> s.log(0, 0));
    }

    private static DriftSea twentyCharts() {
        DriftSea sea = full();
        int x = sea.ahead(3, 1, 0);
        int y = sea.ahead(3, 1, 1);
        for (int i = 3; i <= 20; i++) {
            Edges.due("CHART " + i, sea.chart(1, 3, x, y), i);
        }
        return sea;
    }

    @Says("chart: NONE: .. there are 20")
    static void tooManyCharts() {
        refuses("a 21st", RefusedTest::twentyCharts, NONE, (s, a) -> s.chart(1, 3, -500, -500));
        Edges.due("20", twentyCharts().count(12), 20);
        DriftSea sea = twentyCharts();
        int fit = sea.fits(NONE);
        Edges.due("they are so", fit > 0, true);
        sea.chart(1, 3, -500, -500);
        Edges.due("they are so still", sea.fits(NONE), fit);
    }

    @Says("monopoly: NONE: nothing is sold")
    static void nothingSold() {
        DriftSea sea = full();
        for (int good = 0; good <= 3; good++) {
            Edges.due("GOOD " + good + " is sold or not", sea.monopoly(good, 0) == NONE, sea.monopoly(good, 1) == NONE);
        }
        refuses("nobody makes 3", RefusedTest::full, NONE, (s, a) -> s.monopoly(3, 0));
        refuses("how much of 3", RefusedTest::full, NONE, (s, a) -> s.monopoly(3, 1));
        refuses("nobody needs 0", RefusedTest::atRest, NONE, (s, a) -> s.monopoly(0, 0));
        refuses("how much of 0", RefusedTest::atRest, NONE, (s, a) -> s.monopoly(0, 1));
    }

    private static DriftSea oneHead() {
        DriftSea sea = together();
        sea.go(1);
        return sea;
    }

    @Says("wide: NONE: one HEAD alone")
    static void oneAlone() {
        refuses("FAR", RefusedTest::oneHead, NONE, (s, a) -> s.wide(0));
        refuses("which", RefusedTest::oneHead, NONE, (s, a) -> s.wide(1));
        Edges.due("two HEADS", Check.sea("i;i").wide(0), 0);
        Edges.due("which two", Check.sea("i;i").wide(1), 1);
    }

    @Says("NONE: not within n; it can't be")
    static void notWithin() {
        refuses("rest", RefusedTest::snapping, NONE, (s, a) -> s.rest(3));
        refuses("round", RefusedTest::snapping, NONE, (s, a) -> s.round(3, 0));
        refuses("round, how long", RefusedTest::snapping, NONE, (s, a) -> s.round(3, 1));
        refuses("one", RefusedTest::atRest, NONE, (s, a) -> s.one(0, 1, 60));
        refuses("snap", RefusedTest::atRest, NONE, (s, a) -> s.snap(0));
        refuses("sail", RefusedTest::atRest, NONE, (s, a) -> s.sail(0, 3, 1, 0));
        refuses("sail, overtaken", RefusedTest::atRest, NONE, (s, a) -> s.sail(0, 3, 1, 1));
        refuses("haste", RefusedTest::atRest, NONE, (s, a) -> s.haste(0, 3, 1));
        refuses("treaty", RefusedTest::atRest, NONE, (s, a) -> s.treaty(3, 0, 20, 9));
        refuses("bicker", RefusedTest::atRest, NONE, (s, a) -> s.bicker(3, 0, 0, 6, 9, 0));
        refuses("bicker, how many", RefusedTest::atRest, NONE, (s, a) -> s.bicker(3, 0, 0, 6, 9, 1));
        refuses("bicker, nearer than near", RefusedTest::atRest, NONE, (s, a) -> s.bicker(3, 999, 0, 1, 1, 0));
        refuses("when", RefusedTest::atRest, NONE, (s, a) -> s.when(0, 5, 60));
        refuses("undercut", RefusedTest::full, NONE, (s, a) -> s.undercut(3, 0));
    }

    @Says("What is refused .. changes nothing (the trail of a DriftSea shows each thing that can change)")
    static void trailShowsChanges() {
        String whole = trailOf(RefusedTest::full);
        Ask[] changes = {
            (s, a) -> s.end(6) ? 1 : 0, (s, a) -> s.feed(0x31, 0, 0, 0, 0), (s, a) -> s.pull(1) ? 1 : 0,
            (s, a) -> s.pull(-1) ? 1 : 0, (s, a) -> s.turn(0) ? 1 : 0, (s, a) -> s.price(0, 6) ? 1 : 0,
            (s, a) -> s.chance(0, 1) ? 1 : 0, (s, a) -> s.chance(1, 2) ? 1 : 0, (s, a) -> s.go(1), (s, a) -> s.years(1, 1L),
            (s, a) -> s.undo(), (s, a) -> s.chart(1, 0, 1, 1), (s, a) -> s.image(), (s, a) -> s.back(), (s, a) -> s.text(1),
        };
        for (int i = 0; i < changes.length; i++) {
            DriftSea sea = full();
            changes[i].on(sea, new int[0]);
            Edges.due("change " + i + " shows", Trail.of(sea).equals(whole), false);
        }
        Edges.due("none shows", Trail.of(full()).equals(whole), true);
    }
}
