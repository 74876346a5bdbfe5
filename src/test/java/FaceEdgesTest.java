import java.lang.reflect.Field;
import java.lang.reflect.Method;
import java.lang.reflect.Modifier;
import java.util.Arrays;
import java.util.TreeSet;

/** What the document says of the face itself, of a new object, of the TAPE and of which PULL holds. */
public final class FaceEdgesTest {
    private static final int NONE = DriftSea.NONE;
    private static final int HIDDEN = DriftSea.HIDDEN;
    private static final String[] FACE = {
        "int feed(int, int, int, int, int)", "boolean end(int)", "int fault(int)", "int text(int)", "int isle(int, int)",
        "int tie(int, int)", "int bridge(int, int)", "int far(int, int)", "boolean pull(int)", "boolean turn(int)",
        "boolean price(int, int)", "boolean chance(int, int)", "int go(int)", "int years(int, long)", "int undo()",
        "int log(int, int)", "int led(int, int, int)", "int drift(int, int)", "int buys(int, int)", "int pays(int)",
        "int lacks(int)", "int monopoly(int, int)", "int undercut(int, int)", "int ahead(int, int, int)", "int rest(int)",
        "int round(int, int)", "int one(int, int, int)", "int nearest(int, int, int, int)", "int snap(int)",
        "int sail(int, int, int, int)", "int haste(int, int, int)", "int treaty(int, int, int, int)",
        "int bicker(int, int, int, int, int, int)", "int chart(int, int, int, int)", "int fits(int)", "int secret(int)",
        "int sees(int, int)", "int everywhere(int)", "int when(int, int, int)", "int lands(int, int)", "int land(int, int)",
        "int wide(int)", "int image()", "int back()", "int count(int)",
    };

    public static void main(String[] args) throws ReflectiveOperationException {
        Edges.runAll(FaceEdgesTest.class);
    }

    @Says("The public face")
    static void face() {
        TreeSet<String> is = new TreeSet<>();
        for (Method method : DriftSea.class.getDeclaredMethods()) {
            if (!Modifier.isPrivate(method.getModifiers())) {
                String types = Arrays.toString(Arrays.stream(method.getParameterTypes()).map(Class::getName).toArray());
                is.add(method.getReturnType() + " " + method.getName() + "(" + types.substring(1, types.length() - 1) + ")");
            }
        }
        Edges.due("the methods " + is, is.equals(new TreeSet<>(Arrays.asList(FACE))), true);
        Edges.due("it is final", Modifier.isFinal(DriftSea.class.getModifiers()), true);
        Edges.due("constructors", DriftSea.class.getConstructors().length, 1);
        int told = 0;
        for (Field field : DriftSea.class.getDeclaredFields()) {
            told += Modifier.isPrivate(field.getModifiers()) ? 0 : 1;
        }
        Edges.due("constants", told, 2);
        Edges.due("NONE", NONE, -1);
        Edges.due("HIDDEN", HIDDEN, -1000000);
    }

    @Says("DriftSea(): No SEA.")
    static void noSea() {
        DriftSea sea = new DriftSea();
        Edges.due("ISLES", sea.count(0), 0);
        Edges.due("bytes", sea.count(5), 0);
        Edges.due("PULLS", sea.count(4), 0);
        Edges.due("none holds", sea.count(7), NONE);
        Edges.due("isle", Check.isle(sea, 0, 0), Check.THROWN);
        Edges.due("tie", sea.tie(0, 0), HIDDEN);
        Edges.due("bridge", sea.bridge(0, 0), NONE);
        Edges.due("far", sea.far(0, 0), NONE);
        Edges.due("undo", sea.undo(), NONE);
        Edges.due("back", sea.back(), NONE);
        DriftSea other = Check.sea("i;i");
        Edges.due("each object has its own", sea.count(0), 0);
        Edges.due("the other one", other.count(0), 2);
    }

    // ---- the TAPE ----

    @Says("Twenty bytes more come to the TAPE (of each number the highest first; bytes of 0 are left out): how many it has")
    static void feedBytes() {
        DriftSea sea = new DriftSea();
        // "ix01;ix23;tw4;bl5 w " in five numbers
        Edges.due("twenty", sea.feed(0x69783031, 0x3B697832, 0x333B7477, 0x343B626C, 0x353B7720), 20);
        Edges.due("in their order", sea.fault(0), NONE);
        Edges.due("a SEA", sea.text(0), 2);
        Edges.due("x of 0", Check.isle(sea, 0, 0), 1);
        Edges.due("x of 1", Check.isle(sea, 1, 0), 23);
        Edges.due("STRENGTH", sea.tie(0, 3), 4);
        Edges.due("LENGTH", sea.bridge(0, 2), 5);
        Edges.due("no bytes", sea.feed(0, 0, 0, 0, 0), 0);
        int[] numbers = {0x69000000, 0x00690000, 0x00006900, 0x00000069};
        for (int number : numbers) {
            for (int place = 0; place < 5; place++) {
                int[] all = new int[5];
                all[place] = number;
                sea.end(0);
                Edges.due("one byte", sea.feed(all[0], all[1], all[2], all[3], all[4]), 1);
                Edges.due("it is i", sea.fault(0), 1);
            }
        }
        sea.end(0);
        Edges.due("0 between", sea.feed(0x69003B00, 0x00690000, 0, 0x003B0069, 0), 5);
        Edges.due("three ISLES", sea.text(0), 3);
        int[][] ends = {{Edges.LEAST, 1}, {Edges.MOST, 4}, {-1, 4}, {1, 1}, {0x80, 1}, {0x8000, 1}, {0x800000, 1}, {0x01010101, 4},
            {0x00FFFF00, 2}, {-256, 3}, {0x7F, 1}, {0x10000000, 1}};
        for (int[] end : ends) {
            sea.end(0);
            Edges.due("bytes of " + end[0], sea.feed(end[0], 0, 0, 0, 0), end[1]);
            Edges.due("five times " + end[0], sea.feed(end[0], end[0], end[0], end[0], end[0]), 6 * end[1]);
        }
        sea.end(0);
        Edges.due("a byte above 127 is one", sea.feed(0x6900693B, 0xE90000, 0, 0, 0), 4);
        Edges.due("and no letter", sea.fault(0), 1);
        sea.end(0);
        sea.feed(0x693B69E9, 0, 0, 0, 0);
        Edges.due("nor with its highest bit alone more", sea.fault(0), 3);
    }

    @Says("feed: NONE: more than 240")
    static void feedTill240() {
        int four = 0x20202020;
        for (int more = 0; more <= 20; more++) {
            DriftSea sea = new DriftSea();
            for (int i = 1; i <= 11; i++) {
                Edges.due("feed " + i, sea.feed(four, four, four, four, four), 20 * i);
            }
            int[] words = new int[5];
            for (int i = 0; i < more; i++) {
                words[i / 4] = words[i / 4] << 8 | 0x21;
            }
            sea.feed(four, four, four, 0, 0);
            int want = 232 + more;
            Edges.due(more + " more than 232", sea.feed(words[0], words[1], words[2], words[3], words[4]), want > 240 ? NONE : want);
            Edges.due("then there are", sea.count(5), want > 240 ? 232 : want);
            Edges.due("what was there is there", sea.fault(0), 232);
        }
    }

    @Says("The TAPE has its first n bytes alone. False: n.")
    static void end() {
        String text = "ix1;ix2;tw4";
        for (int n = 0; n <= text.length(); n++) {
            DriftSea sea = new DriftSea();
            Check.tape(sea, text);
            Edges.due("end(" + n + ")", sea.end(n), true);
            Edges.due("bytes", sea.count(5), n);
            Edges.due("the first ones", sea.fault(0), Check.faultOf(0, text.substring(0, n)));
            Edges.due("end(" + (n + 1) + ")", sea.end(n + 1), false);
            Edges.due("bytes still", sea.count(5), n);
            Edges.due("what comes next comes behind them", sea.feed(0x7E, 0, 0, 0, 0), n + 1);
            Edges.due("it is there", sea.fault(0), n);
        }
        DriftSea sea = new DriftSea();
        Edges.due("an empty TAPE, 0", sea.end(0), true);
        for (int n : new int[] {1, -1, 240, 241, Edges.LEAST, Edges.MOST}) {
            Edges.due("an empty TAPE, " + n, sea.end(n), false);
        }
        Check.tape(sea, " ".repeat(240));
        Edges.due("240 of 240", sea.end(240), true);
        Edges.due("241 of 240", sea.end(241), false);
        Edges.due("239 of 240", sea.end(239), true);
        Edges.due("240 of 239", sea.end(240), false);
        Edges.due("-1", sea.end(-1), false);
        Edges.due("239 still", sea.count(5), 239);
    }

    @Says("The FAULT of the TAPE as a SEA (0), a PULL (1). NONE: none. -2: no such sort.")
    static void faults() {
        DriftSea sea = new DriftSea();
        Edges.due("an empty TAPE as a SEA", sea.fault(0), 0);
        Edges.due("an empty TAPE as a PULL", sea.fault(1), 0);
        for (int sort : new int[] {-1, 2, 3, Edges.LEAST, Edges.MOST}) {
            Edges.due("sort " + sort, sea.fault(sort), -2);
        }
        Check.tape(sea, "i;i");
        Edges.due("a SEA as a SEA", sea.fault(0), NONE);
        Edges.due("a SEA as a PULL", sea.fault(1), 0);
        Edges.due("sort 2", sea.fault(2), -2);
        Check.tape(sea, "y:1");
        Edges.due("a PULL as a SEA", sea.fault(0), 0);
        Edges.due("a PULL as a PULL", sea.fault(1), NONE);
        Edges.due("it is there still", sea.count(5), 3);
        Check.tape(sea, "i;i" + " ".repeat(236) + "~");
        Edges.due("at the last of 240", sea.fault(0), 239);
        Check.tape(sea, "i;" + " ".repeat(238));
        Edges.due("behind the last of 240", sea.fault(0), 240);
        Check.tape(sea, "i;" + " ".repeat(237) + "i");
        Edges.due("with the last of 240", sea.fault(0), NONE);
    }

    @Says("The TAPE (empty then) is the SEA (SEASON 0; all that was of another one is gone but PULLS, which holds, STORM, SALT)")
    static void anotherSea() {
        DriftSea sea = Check.sea("wf9j9r1c9;ix0y0m9g3n2q9s9p9;ix60y0m9g2n3q9s9p9;ix99y99;tk1w9;ta2b1;ba0b1l1;b");
        Check.rule(sea, "y:1");
        Check.rule(sea, "y:2");
        sea.pull(1);
        sea.chance(0, 7);
        sea.chance(1, 8);
        sea.price(0, 70);
        sea.turn(0);
        sea.chart(1, 0, 5, 5);
        sea.image();
        sea.go(40);
        Check.tape(sea, "ix0y0;ix60y0;t;t;b");
        Edges.due("how many ISLES", sea.text(0), 2);
        int[] counts = {2, 2, 2, 1, 2, 0, 0, 1, 1, 0, 0, 10, 0, 0, 0};
        for (int what = 0; what < counts.length; what++) {
            Edges.due("count(" + what + ")", sea.count(what), counts[what]);
        }
        int[] isle = {0, 0, 1, 0, 0, 0, 4, 1, 9, 5};
        for (int what = 0; what < isle.length; what++) {
            Edges.due("isle(0, " + what + ")", Check.isle(sea, 0, what), isle[what]);
        }
        Edges.due("KIND", sea.tie(0, 2), 0);
        Edges.due("the PULL that holds", sea.tie(0, 4), 2);
        Edges.due("BRIDGE", sea.bridge(0, 2), 30);
        Edges.due("no ISLE 2", Check.isle(sea, 2, 0), Check.THROWN);
        Edges.due("no IMAGE", sea.back(), NONE);
        Edges.due("no SEASON", sea.undo(), NONE);
        Edges.due("nothing put by", sea.log(0, 0), NONE);
        Edges.due("no CHART", sea.fits(NONE), 4);
        Edges.due("no trade pulls", sea.drift(0, 0), 4);
        Edges.due("STORM", sea.chance(0, 7), false);
        Edges.due("SALT", sea.chance(1, 8), false);
        Edges.due("a third PULL", Check.rule(sea, "y:3"), 2);
    }

    @Says("The PULL that holds (NONE: none). False: no such one.")
    static void pullHolds() {
        DriftSea sea = Check.sea("ix0;ix60;tw9");
        Edges.due("none yet: NONE", sea.pull(NONE), true);
        for (int pulls = 0; pulls <= 4; pulls++) {
            for (int pull = -2; pull <= 5; pull++) {
                boolean can = pull >= NONE && pull < pulls;
                int was = sea.count(7);
                Edges.due("pull(" + pull + ") of " + pulls, sea.pull(pull), can);
                Edges.due("it holds", sea.count(7), can ? pull : was);
                int holds = sea.count(7);
                Edges.due("its worth", sea.tie(0, 4), holds == NONE ? 9 : 20 + holds);
            }
            Edges.due("MIN", sea.pull(Edges.LEAST), false);
            Edges.due("MAX", sea.pull(Edges.MOST), false);
            Check.rule(sea, "y:" + (20 + pulls));
        }
        Edges.due("the same again", sea.pull(3) && sea.pull(3), true);
    }

    @Says("An object is used for at most 512 calls after it has been made")
    static void calls() {
        DriftSea sea = new DriftSea();
        Check.tape(sea, "wj1r1;ix0y0n1;ix60y0g1;ix0y60;t;ta1b2k1w9;b");
        sea.text(0);
        for (int i = 0; i < 250; i++) {
            sea.go(60);
            sea.undo();
        }
        Edges.due("59 a round and more", sea.count(6), 250 * 59);
        Edges.due("30 less one can be UNDONE", sea.count(13), 29);
        Edges.due("60 less one are put by", sea.count(14), 59);
        Edges.due("bits", sea.sees(0, 999) >= 0, true);
    }
}
