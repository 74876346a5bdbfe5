import java.util.ArrayList;
import java.util.Arrays;
import java.util.LinkedHashMap;
import java.util.List;
import java.util.Map;
import java.util.TreeSet;

/** A second, slow and plain telling of the document, to hold DriftSea against. */
final class Model {
    static final int NONE = -1;
    static final int HIDDEN = -1000000;

    /** A clause of a SEA: its letter and all its items, told or not. */
    record Clause(char sort, Map<Character, Integer> items) { }

    record Tie(int first, int second, int kind, int strength) { }

    record Chart(int season, int isle, int x, int y) { }

    /** What a season changes. */
    static final class World {
        int[][] place;
        int[] mass;
        int[] head;
        int[] scars;
        int[] kind;
        int[] price;
        boolean[] stands;
        int season;

        World copy() {
            World w = new World();
            w.place = Arrays.stream(place).map(int[]::clone).toArray(int[][]::new);
            w.mass = mass.clone();
            w.head = head.clone();
            w.scars = scars.clone();
            w.kind = kind.clone();
            w.price = price.clone();
            w.stands = stands.clone();
            w.season = season;
            return w;
        }

        int far(int a, int b) {
            return Math.abs(x(a) - x(b)) + Math.abs(y(a) - y(b));
        }

        int x(int isle) {
            return place[head[isle]][0];
        }

        int y(int isle) {
            return place[head[isle]][1];
        }

        List<Integer> heads() {
            return List.copyOf(new TreeSet<>(Arrays.stream(head).boxed().toList()));
        }

        String shape() {
            StringBuilder s = new StringBuilder();
            for (int i = 0; i < head.length; i++) {
                s.append(head[i]).append(' ').append(x(i)).append(' ').append(y(i)).append(' ')
                        .append(mass[head[i]]).append('/');
            }
            return s.toString();
        }
    }

    record Trades(int[][] amount, int[] paid, int[] lacking) { }

    record Passed(int parts, int snapped, int gone) { }

    String tape = "";
    List<Clause> isles = new ArrayList<>();
    List<Clause> ties = new ArrayList<>();
    List<Clause> bridges = new ArrayList<>();
    Clause water;
    World now;
    World image;
    List<World> undo = new ArrayList<>();
    List<Passed> put = new ArrayList<>();
    List<String> pulls = new ArrayList<>();
    List<Chart> charts = new ArrayList<>();
    int holds = NONE;
    int[] chances = new int[2];
    private final Earley earley = new Earley();

    // ---- texts ----

    private static final Map<Character, String> ITEMS = new LinkedHashMap<>();

    static {
        ITEMS.put('w', "f 0 9 1,j 0 9 0,r 0 1 0,c 1 99 10");
        ITEMS.put('i', "x 0 99 50,y 0 99 50,m 1 9 1,g 0 3 0,n 0 4 4,q 1 9 1,s 0 99 9,p 0 99 5");
        ITEMS.put('t', "a 0 5 0,b 0 5 1,k 0 1 0,w 1 9 1");
        ITEMS.put('b', "a 0 5 0,b 0 5 1,l 1 99 30");
    }

    private static Clause untold(char sort) {
        Map<Character, Integer> items = new LinkedHashMap<>();
        for (String item : ITEMS.get(sort).split(",")) {
            items.put(item.charAt(0), Integer.parseInt(item.split(" ")[3]));
        }
        return new Clause(sort, items);
    }

    private static int[] bounds(char sort, char letter) {
        for (String item : ITEMS.get(sort).split(",")) {
            if (item.charAt(0) == letter) {
                String[] told = item.split(" ");
                return new int[] {Integer.parseInt(told[1]), Integer.parseInt(told[2])};
            }
        }
        return null;
    }

    /** Byte by byte: what is wanted next is 'c' a clause, 'i' an item or ; or the end, 'n' a number. */
    static int seaFault(String text, List<Clause> read) {
        char want = 'c';
        String used = "";
        char letter = 0;
        int at = 0;
        while (at < text.length()) {
            char c = text.charAt(at);
            if (c == ' ') {
                at++;
            } else if (want == 'c') {
                int most = c == 'w' ? 1 : c == 'i' ? 6 : c == 't' ? 8 : c == 'b' ? 4 : 0;
                if (read.stream().filter(k -> k.sort == c).count() >= most) {
                    return at;
                }
                read.add(untold(c));
                used = "";
                want = 'i';
                at++;
            } else if (want == 'i' && c == ';') {
                want = 'c';
                at++;
            } else if (want == 'i') {
                if (bounds(read.get(read.size() - 1).sort, c) == null || used.indexOf(c) >= 0) {
                    return at;
                }
                used += c;
                letter = c;
                want = 'n';
                at++;
            } else {
                int end = at;
                while (end < text.length() && "0123456789".indexOf(text.charAt(end)) >= 0) {
                    end++;
                }
                if (end == at) {
                    return at;
                }
                if (end - at > 2) {
                    return at + 2;
                }
                int value = Integer.parseInt(text.substring(at, end));
                Clause clause = read.get(read.size() - 1);
                int[] bounds = bounds(clause.sort, letter);
                if (value < bounds[0] || value > bounds[1]) {
                    return end - 1;
                }
                clause.items.put(letter, value);
                want = 'i';
                at = end;
            }
        }
        if (want != 'i') {
            return text.length();
        }
        long isles = read.stream().filter(k -> k.sort == 'i').count();
        boolean bad = isles < 2;
        for (Clause clause : read) {
            if (clause.sort == 't' || clause.sort == 'b') {
                int a = clause.items.get('a');
                int b = clause.items.get('b');
                bad |= a == b || a >= isles || b >= isles;
            }
        }
        return bad ? text.length() : NONE;
    }

    int feed(int... numbers) {
        StringBuilder more = new StringBuilder(tape);
        for (int number : numbers) {
            for (int i = 3; i >= 0; i--) {
                char c = (char) (number >> 8 * i & 255);
                if (c != 0) {
                    more.append(c);
                }
            }
        }
        if (more.length() > 240) {
            return NONE;
        }
        tape = more.toString();
        return tape.length();
    }

    boolean end(int n) {
        if (n < 0 || n > tape.length()) {
            return false;
        }
        tape = tape.substring(0, n);
        return true;
    }

    int fault(int sort) {
        return sort == 0 ? seaFault(tape, new ArrayList<>()) : sort == 1 ? earley.fault(tape) : -2;
    }

    int text(int sort) {
        if (sort != 0 && sort != 1 || fault(sort) != NONE) {
            return NONE;
        }
        if (sort == 1) {
            if (pulls.size() == 4) {
                return NONE;
            }
            pulls.add(tape.replace(" ", ""));
            tape = "";
            return pulls.size() - 1;
        }
        List<Clause> read = new ArrayList<>();
        seaFault(tape, read);
        tape = "";
        isles = read.stream().filter(c -> c.sort == 'i').toList();
        ties = read.stream().filter(c -> c.sort == 't').toList();
        bridges = read.stream().filter(c -> c.sort == 'b').toList();
        water = read.stream().filter(c -> c.sort == 'w').findFirst().orElse(untold('w'));
        now = new World();
        now.place = isles.stream().map(c -> new int[] {c.items.get('x'), c.items.get('y')}).toArray(int[][]::new);
        now.mass = isles.stream().mapToInt(c -> c.items.get('m')).toArray();
        now.head = java.util.stream.IntStream.range(0, isles.size()).toArray();
        now.scars = new int[isles.size()];
        now.kind = ties.stream().mapToInt(c -> c.items.get('k')).toArray();
        now.price = isles.stream().mapToInt(c -> c.items.get('p')).toArray();
        now.stands = new boolean[bridges.size()];
        Arrays.fill(now.stands, true);
        image = null;
        undo.clear();
        put.clear();
        charts.clear();
        return isles.size();
    }

    // ---- the worth of a PULL, straight from its text ----

    private String left;
    private Map<Character, Integer> letters;

    private int worth(String pull, Map<Character, Integer> values) {
        letters = values;
        for (String clause : pull.split(";")) {
            String body = clause.substring(2);
            int mark = body.indexOf('?');
            boolean holdsNow = true;
            if (mark >= 0) {
                left = body.substring(0, mark);
                holdsNow = condition();
            }
            if (holdsNow) {
                left = body.substring(mark + 1);
                return sum();
            }
        }
        return 0;
    }

    private boolean takes(String signs) {
        if (left.isEmpty() || signs.indexOf(left.charAt(0)) < 0) {
            return false;
        }
        left = left.substring(1);
        return true;
    }

    private boolean condition() {
        boolean is = truth();
        while (takes("|")) {
            is = truth() || is;
        }
        return is;
    }

    private boolean truth() {
        boolean is = unit();
        while (takes("&")) {
            is = unit() && is;
        }
        return is;
    }

    private boolean unit() {
        if (takes("!")) {
            return !unit();
        }
        if (takes("(")) {
            boolean is = condition();
            takes(")");
            return is;
        }
        int one = sum();
        char sign = left.charAt(0);
        left = left.substring(1);
        int two = sum();
        return sign == '=' ? one == two : sign == '<' ? one < two : one > two;
    }

    private static int million(long v) {
        return (int) (v > 1000000 ? 1000000 : v < -1000000 ? -1000000 : v);
    }

    private int sum() {
        int v = term();
        while (!left.isEmpty() && "+-".indexOf(left.charAt(0)) >= 0) {
            v = takes("+") ? million((long) v + term()) : takes("-") ? million((long) v - term()) : v;
        }
        return v;
    }

    private int term() {
        int v = atom();
        while (!left.isEmpty() && "*/".indexOf(left.charAt(0)) >= 0) {
            if (takes("*")) {
                v = million((long) v * atom());
            } else {
                takes("/");
                int by = atom();
                v = by == 0 ? 0 : v / by;
            }
        }
        return v;
    }

    private int atom() {
        if (takes("[")) {
            int v = sum();
            takes("]");
            return v;
        }
        int digits = 0;
        while (digits < left.length() && Character.isDigit(left.charAt(digits))) {
            digits++;
        }
        if (digits > 0) {
            int v = Integer.parseInt(left.substring(0, digits));
            left = left.substring(digits);
            return v;
        }
        char c = left.charAt(0);
        left = left.substring(1);
        return letters.get(c);
    }

    // ---- a season ----

    List<Tie> told(World w) {
        List<Tie> list = new ArrayList<>();
        for (int t = 0; t < ties.size(); t++) {
            Map<Character, Integer> items = ties.get(t).items;
            list.add(new Tie(items.get('a'), items.get('b'), w.kind[t], items.get('w')));
        }
        return list;
    }

    int pullOf(World w, Tie tie) {
        if (w.head[tie.first] == w.head[tie.second] || w.far(tie.first, tie.second) == 0) {
            return 0;
        }
        if (holds == NONE) {
            return tie.kind == 1 ? -tie.strength : tie.strength;
        }
        int worth = worth(pulls.get(holds), Map.of('d', w.far(tie.first, tie.second), 'w', tie.strength,
                'k', tie.kind, 'm', w.mass[w.head[tie.first]], 'n', w.mass[w.head[tie.second]], 'h', w.season));
        return Math.max(-99, Math.min(99, worth));
    }

    /** How one is drawn towards another, in x and y. */
    private static int[] drawn(World w, int one, int other, int pull) {
        int far = w.far(one, other);
        if (far == 0) {
            return new int[2];
        }
        return new int[] {pull * (w.x(other) - w.x(one)) / far, pull * (w.y(other) - w.y(one)) / far};
    }

    int item(Clause c, char letter) {
        return c.items.get(letter);
    }

    Trades trade(World w) {
        int n = isles.size();
        Trades t = new Trades(new int[n][n], new int[n], new int[n]);
        int[] stock = isles.stream().mapToInt(c -> item(c, 's')).toArray();
        for (int buyer : w.heads()) {
            int need = item(isles.get(buyer), 'n');
            if (need == 4) {
                continue;
            }
            int lacks = item(isles.get(buyer), 'q');
            while (lacks > 0) {
                long best = Long.MAX_VALUE;
                for (int seller : w.heads()) {
                    if (seller != buyer && item(isles.get(seller), 'g') == need && stock[seller] > 0) {
                        long cost = w.price[seller] + item(water, 'f') * w.far(buyer, seller);
                        best = Math.min(best, cost * 10 + seller);
                    }
                }
                if (best == Long.MAX_VALUE) {
                    break;
                }
                int seller = (int) (best % 10);
                lacks--;
                stock[seller]--;
                t.amount[buyer][seller]++;
                t.paid[buyer] += best / 10;
            }
            t.lacking[buyer] = lacks;
        }
        return t;
    }

    int[][] draws(World w, List<Tie> by) {
        int[][] sum = new int[isles.size()][2];
        List<int[]> all = new ArrayList<>();
        for (Tie tie : by) {
            all.add(new int[] {tie.first, tie.second, pullOf(w, tie)});
        }
        if (item(water, 'r') == 1) {
            int[][] amount = trade(w).amount;
            for (int b = 0; b < amount.length; b++) {
                for (int s = 0; s < amount.length; s++) {
                    all.add(new int[] {b, s, amount[b][s]});
                }
            }
        }
        for (int[] one : all) {
            int[] d = drawn(w, one[0], one[1], one[2]);
            for (int axis = 0; axis < 2; axis++) {
                sum[w.head[one[0]]][axis] += d[axis];
                sum[w.head[one[1]]][axis] -= d[axis];
            }
        }
        return sum;
    }

    private static int bound(int v) {
        return Math.max(-999, Math.min(999, v));
    }

    Passed season(World w, List<Tie> by) {
        int[][] sum = draws(w, by);
        World ahead = w.copy();
        int gone = 0;
        for (int h : w.heads()) {
            for (int axis = 0; axis < 2; axis++) {
                w.place[h][axis] = bound(w.place[h][axis] + sum[h][axis] / w.mass[h]);
                gone += Math.abs(w.place[h][axis] - ahead.place[h][axis]);
            }
        }
        int parts = 0;
        boolean again = true;
        while (again) {
            again = false;
            search:
            for (int a : w.heads()) {
                for (int b : w.heads()) {
                    if (a < b && w.far(a, b) <= item(water, 'j')) {
                        boolean scar = ahead.far(a, b) - w.far(a, b) > item(water, 'c');
                        w.scars[a] += w.scars[b] + (scar ? 1 : 0);
                        w.mass[a] = Math.min(99, w.mass[a] + w.mass[b]);
                        for (int i = 0; i < w.head.length; i++) {
                            w.head[i] = w.head[i] == b ? a : w.head[i];
                        }
                        parts++;
                        again = true;
                        break search;
                    }
                }
            }
        }
        int snapped = 0;
        for (int b = 0; b < bridges.size(); b++) {
            Clause c = bridges.get(b);
            if (w.stands[b] && w.far(item(c, 'a'), item(c, 'b')) > item(c, 'l')) {
                w.stands[b] = false;
                snapped++;
            }
        }
        w.season++;
        return new Passed(parts, snapped, gone);
    }

    private long seedNow;

    private int draw(int k) {
        seedNow = seedNow * 6364136223846793005L + 1442695040888963407L;
        return (int) Long.remainderUnsigned(seedNow >>> 33, k);
    }

    int years(int n, Long seed) {
        if (now == null || n < 1 || n > 60) {
            return NONE;
        }
        for (int i = 0; i < n; i++) {
            undo.add(now.copy());
            if (undo.size() > 30) {
                undo.remove(0);
            }
            if (seed != null) {
                seedNow = i == 0 ? seed : seedNow;
                weather();
            }
            put.add(0, season(now, told(now)));
            if (put.size() > 60) {
                put.remove(60);
            }
        }
        return now.season;
    }

    private void weather() {
        if (draw(100) < chances[0]) {
            int h = now.heads().get(draw(now.heads().size()));
            now.place[h][0] = bound(now.place[h][0] + draw(19) - 9);
            now.place[h][1] = bound(now.place[h][1] + draw(19) - 9);
        }
        if (draw(100) < chances[1] && !ties.isEmpty()) {
            int t = draw(ties.size());
            now.kind[t] = 1 - now.kind[t];
        }
    }

    int undo() {
        if (undo.isEmpty()) {
            return NONE;
        }
        int[] prices = now.price;
        now = undo.remove(undo.size() - 1);
        now.price = prices;
        put.remove(0);
        return now.season;
    }

    int back() {
        if (image == null) {
            return NONE;
        }
        now = image.copy();
        undo.clear();
        return now.season;
    }

    // ---- from as it is ----

    /** Behind 0, 1, .. n seasons. */
    List<World> ahead(int n, List<Tie> more) {
        List<World> list = new ArrayList<>();
        World w = now.copy();
        list.add(w);
        for (int i = 0; i < n; i++) {
            w = w.copy();
            List<Tie> by = told(w);
            by.addAll(more);
            season(w, by);
            list.add(w);
        }
        return list;
    }

    boolean isIsle(int i) {
        return i >= 0 && i < isles.size();
    }

    boolean two(int a, int b) {
        return isIsle(a) && isIsle(b) && a != b;
    }

    int rest(int n) {
        World w = now.copy();
        for (int k = 0; k <= n; k++) {
            Passed p = season(w, told(w));
            if (p.parts == 0 && p.gone == 0) {
                return k;
            }
        }
        return NONE;
    }

    int round(int n, int what) {
        List<String> shapes = ahead(n, List.of()).stream().map(World::shape).toList();
        for (int k = 1; k <= n; k++) {
            int first = shapes.indexOf(shapes.get(k));
            if (first < k) {
                return what == 0 ? k : k - first;
            }
        }
        return NONE;
    }

    int[] sail(int from, int to, int speed, int n) {
        int x = now.x(from);
        int y = now.y(from);
        List<World> worlds = ahead(n, List.of());
        for (int k = 1; k <= n; k++) {
            World w = worlds.get(k);
            if (x == w.x(to) && y == w.y(to)) {
                return new int[] {k, 1};
            }
            for (int left = speed; left > 0; left--) {
                if (x != w.x(to)) {
                    x += x < w.x(to) ? 1 : -1;
                } else if (y != w.y(to)) {
                    y += y < w.y(to) ? 1 : -1;
                }
            }
            if (x == w.x(to) && y == w.y(to)) {
                return new int[] {k, 0};
            }
        }
        return new int[] {NONE, NONE};
    }

    int treaty(int a, int b, int far, int n, int strength) {
        List<Tie> pairs = new ArrayList<>();
        for (int i = 0; i < isles.size(); i++) {
            for (int j = i + 1; j < isles.size(); j++) {
                pairs.add(new Tie(i, j, 0, strength));
            }
        }
        int best = NONE;
        int fewest = 4;
        for (int set = 0; set < 1 << pairs.size(); set++) {
            int many = Integer.bitCount(set);
            if (many > 3 || many > fewest) {
                continue;
            }
            List<Tie> more = new ArrayList<>();
            int row = 0;
            for (int i = 0; i < pairs.size(); i++) {
                if ((set >> i & 1) == 1) {
                    more.add(pairs.get(i));
                    row = row * 100 + pairs.get(i).first * 10 + pairs.get(i).second;
                }
            }
            if ((many < fewest || row < best) && ahead(n, more).get(n).far(a, b) <= far) {
                best = row;
                fewest = many;
            }
        }
        return best;
    }

    private int[] bickerBest;

    int bicker(int a, int b, int[] between, int n, int strength, int what) {
        bickerBest = null;
        bickerOn(now, new Tie(a, b, 0, strength), between, n, new int[2]);
        return bickerBest == null ? NONE : bickerBest[what];
    }

    private void bickerOn(World w, Tie deal, int[] between, int left, int[] sofar) {
        if (left == 0) {
            if (bickerBest == null || sofar[1] < bickerBest[1]
                    || sofar[1] == bickerBest[1] && sofar[0] < bickerBest[0]) {
                bickerBest = sofar;
            }
            return;
        }
        for (int d = 2; d >= 0; d--) {
            World next = w.copy();
            List<Tie> by = told(next);
            if (d > 0) {
                by.add(new Tie(deal.first, deal.second, d - 1, deal.strength));
            }
            season(next, by);
            int far = next.far(deal.first, deal.second);
            if (far >= between[0] && far <= between[1]) {
                bickerOn(next, deal, between, left - 1, new int[] {sofar[0] * 10 + d, sofar[1] + (d > 0 ? 1 : 0)});
            }
        }
    }

    private boolean chartsAreSo(List<Tie> by, int set) {
        World w = now.copy();
        for (int k = 1; k <= 20; k++) {
            List<Tie> all = new ArrayList<>(by);
            for (int t = 0; t < ties.size(); t++) {
                if ((set >> t & 1) == 1) {
                    all.add(told(w).get(t));
                }
            }
            season(w, all);
            for (Chart c : charts) {
                if (c.season == k && (w.x(c.isle) != c.x || w.y(c.isle) != c.y)) {
                    return false;
                }
            }
        }
        return true;
    }

    List<Integer> fits() {
        List<Integer> found = new ArrayList<>();
        for (int set = 0; set < 1 << ties.size(); set++) {
            if (chartsAreSo(List.of(), set)) {
                found.add(set);
            }
        }
        return found;
    }

    List<Integer> secrets() {
        List<Integer> found = new ArrayList<>();
        for (int told = 0; told < 6000; told++) {
            Tie tie = new Tie(told / 1000, told / 100 % 10, told / 10 % 10, told % 10);
            if (tie.first < tie.second && isIsle(tie.second) && tie.kind < 2 && tie.strength > 0
                    && tie.strength < 4 && chartsAreSo(List.of(tie), 255)) {
                found.add(told);
            }
        }
        return found;
    }

    boolean everywhere(World w, int head, int r) {
        return w.heads().stream().allMatch(o -> o == head || w.far(o, head) <= r);
    }

    int land(int head, int r) {
        int bits = 1 << head;
        for (int i = 0; i < 9; i++) {
            for (int a : now.heads()) {
                for (int b : now.heads()) {
                    if ((bits >> a & 1) == 1 && now.far(a, b) <= r) {
                        bits |= 1 << b;
                    }
                }
            }
        }
        return bits;
    }
}
