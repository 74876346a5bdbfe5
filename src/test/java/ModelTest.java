import java.util.List;
import java.util.Random;
import java.util.TreeSet;

/** Random runs of calls, each answer held against the model's. */
public final class ModelTest {
    private final Random random;
    private final Check check;
    private final DriftSea sea = new DriftSea();
    private final Model model = new Model();
    private final StringBuilder run = new StringBuilder();

    private ModelTest(long seed, Check check) {
        random = new Random(seed);
        this.check = check;
    }

    public static void main(String[] args) {
        Check check = new Check();
        int runs = args.length > 0 ? Integer.parseInt(args[0]) : 600;
        int first = args.length > 1 ? Integer.parseInt(args[1]) : 0;
        for (int i = 0; i < runs && check.wrongSoFar() == 0; i++) {
            ModelTest test = new ModelTest(first + i, check);
            test.callAll(150);
            if (check.wrongSoFar() > 0) {
                System.out.println("seed " + (first + i) + ":\n" + test.run);
            }
        }
        check.close("ModelTest");
    }

    private void callAll(int calls) {
        for (int i = 0; i < calls && check.wrongSoFar() == 0; i++) {
            int what = random.nextInt(100);
            if (what < 4 || i == 2) {
                tellText(0);
            } else if (what < 8) {
                tellText(1);
            } else if (what < 30) {
                change();
            } else if (what < 55) {
                look();
            } else if (what < 80) {
                foresee();
            } else if (what < 92) {
                survey();
            } else {
                plan();
            }
        }
    }

    private void same(String call, long got, long want) {
        run.append(call).append(" -> ").append(got).append('\n');
        check.due(call, got, want);
    }

    private void same(String call, boolean got, boolean want) {
        same(call, got ? 1 : 0, want ? 1 : 0);
    }

    private int any(int least, int most) {
        if (random.nextInt(40) == 0) {
            return random.nextBoolean() ? least - 1 : most + 1;
        }
        return least + random.nextInt(most - least + 1);
    }

    private int anyIsle() {
        return any(0, Math.max(0, model.isles.size() - 1));
    }

    // ---- texts ----

    private String seaText() {
        StringBuilder text = new StringBuilder();
        int isles = 2 + random.nextInt(5);
        int spread = new int[] {5, 20, 99}[random.nextInt(3)];
        boolean needy = random.nextBoolean();
        if (random.nextInt(4) > 0) {
            text.append("w").append(item('f', 9, 4)).append(item('j', random.nextBoolean() ? 9 : 3, 6))
                    .append(item('r', 1, 6)).append(item('c', 20, 4)).append(';');
        }
        for (int i = 0; i < isles; i++) {
            text.append(i > 0 ? ";" : "").append("i").append(item('x', spread, 9)).append(item('y', spread, 9))
                    .append(item('m', random.nextBoolean() ? 3 : 9, 4)).append(item('g', needy ? 1 : 3, 6))
                    .append(item('n', needy ? 1 : 3, needy ? 8 : 1)).append(item('q', 9, 5))
                    .append(item('s', 9, 3)).append(item('p', random.nextBoolean() ? 9 : 99, 4));
        }
        int ties = random.nextInt(random.nextInt(8) == 0 ? 9 : 6);
        for (int i = 0; i < ties; i++) {
            text.append(";t").append(pair(isles)).append(item('k', 1, 5)).append(item('w', 9, 8));
        }
        int bridges = random.nextInt(3);
        for (int i = 0; i < bridges; i++) {
            text.append(";b").append(pair(isles)).append(item('l', 60, 5));
        }
        return text.toString();
    }

    private String pair(int isles) {
        int a = random.nextInt(isles);
        int b = random.nextInt(20) == 0 ? random.nextInt(6) : (a + 1 + random.nextInt(isles - 1)) % isles;
        return (random.nextBoolean() ? " a" : "a") + a + "b" + b;
    }

    private String item(char letter, int most, int oftenOfTen) {
        if (random.nextInt(10) >= oftenOfTen) {
            return "";
        }
        int least = "mqcwl".indexOf(letter) >= 0 ? 1 : 0;
        return letter + (random.nextInt(30) == 0 ? " " : "") + (least + random.nextInt(most - least + 1));
    }

    private String spoil(String text) {
        String signs = "witbxymgnqspfjrcaklx0123456789;; y:?!([" + (char) 255;
        int at = random.nextInt(text.length() + 1);
        char sign = signs.charAt(random.nextInt(signs.length()));
        return random.nextBoolean() ? text.substring(0, at) + sign + text.substring(at) : text.substring(0, at);
    }

    private void tellText(int sort) {
        same("end(0)", sea.end(0), model.end(0));
        String text = sort == 0 ? seaText() : PullTexts.pull(random);
        if (random.nextInt(4) == 0) {
            text = spoil(text);
        }
        feed(text);
        same("fault(" + sort + ") of " + model.tape, sea.fault(sort), model.fault(sort));
        if (random.nextInt(10) == 0) {
            same("fault(" + (1 - sort) + ")", sea.fault(1 - sort), model.fault(1 - sort));
        }
        same("text(" + sort + ") of " + model.tape, sea.text(sort), model.text(sort));
        if (sort == 1 && random.nextBoolean()) {
            holdPull();
        }
    }

    private void feed(String text) {
        for (int at = 0; at < text.length(); at += 20) {
            int[] words = new int[5];
            for (int i = 0; i < 20; i++) {
                words[i / 4] = words[i / 4] << 8 | (at + i < text.length() ? text.charAt(at + i) : 0);
            }
            same("feed", sea.feed(words[0], words[1], words[2], words[3], words[4]), model.feed(words));
        }
    }

    private void holdPull() {
        int p = random.nextInt(7) - 2;
        boolean can = p >= -1 && p < model.pulls.size();
        same("pull(" + p + ")", sea.pull(p), can);
        model.holds = can ? p : model.holds;
    }

    // ---- what changes ----

    private void change() {
        boolean hasSea = model.now != null;
        switch (random.nextInt(11)) {
            case 0: holdPull(); break;
            case 1: {
                int t = any(0, Math.max(0, model.ties.size() - 1));
                boolean can = t >= 0 && t < model.ties.size();
                same("turn(" + t + ")", sea.turn(t), can);
                if (can) {
                    model.now.kind[t] = 1 - model.now.kind[t];
                }
                break;
            }
            case 2: {
                int i = anyIsle();
                int v = any(0, random.nextBoolean() ? 9 : 99);
                boolean can = model.isIsle(i) && v >= 0 && v <= 99 && model.now.price[i] != v;
                same("price(" + i + ", " + v + ")", sea.price(i, v), can);
                if (can) {
                    model.now.price[i] = v;
                }
                break;
            }
            case 3: {
                int w = any(0, 1);
                int v = any(0, 99);
                boolean can = w >= 0 && w <= 1 && v >= 0 && v <= 99 && model.chances[w] != v;
                same("chance(" + w + ", " + v + ")", sea.chance(w, v), can);
                if (can) {
                    model.chances[w] = v;
                }
                break;
            }
            case 4: case 5: {
                int n = random.nextInt(4) > 0 ? any(1, 4) : any(1, 60);
                same("go(" + n + ")", sea.go(n), model.years(n, null));
                break;
            }
            case 6: {
                int n = random.nextInt(4) > 0 ? any(1, 4) : any(1, 60);
                long seed = random.nextLong();
                same("years(" + n + ", " + seed + "L)", sea.years(n, seed), model.years(n, seed));
                break;
            }
            case 7: case 8: {
                int times = random.nextInt(6) == 0 ? 35 : 1;
                for (int i = 0; i < times; i++) {
                    same("undo()", sea.undo(), model.undo());
                }
                break;
            }
            case 9:
                same("image()", sea.image(), hasSea ? model.now.season : -1);
                model.image = hasSea ? model.now.copy() : null;
                break;
            default: same("back()", sea.back(), model.back());
        }
    }

    // ---- what is there ----

    private void look() {
        if (model.now == null) {
            lookAtCounts();
            return;
        }
        switch (random.nextInt(9)) {
            case 0: lookAtIsle(anyIsle(), any(0, 9)); break;
            case 1: lookAtTie(any(0, Math.max(0, model.ties.size() - 1)), any(0, 4)); break;
            case 2: lookAtBridge(any(0, Math.max(0, model.bridges.size() - 1)), any(0, 3)); break;
            case 3: {
                int a = anyIsle();
                int b = anyIsle();
                boolean can = model.isIsle(a) && model.isIsle(b);
                same("far(" + a + ", " + b + ")", sea.far(a, b), can ? model.now.far(a, b) : -1);
                break;
            }
            case 4: {
                int i = any(0, Math.max(0, Math.min(3, model.put.size() - 1)));
                int w = any(0, 2);
                same("log(" + i + ", " + w + ")", sea.log(i, w), logOf(i, w));
                same("log(59, " + w + ")", sea.log(59, w), logOf(59, w));
                break;
            }
            case 5: lookAtDraws(); break;
            case 6: case 7: lookAtTrade(); break;
            default: lookAtCounts();
        }
    }

    private int logOf(int i, int w) {
        if (i < 0 || i >= model.put.size() || w < 0 || w > 2) {
            return -1;
        }
        Model.Passed p = model.put.get(i);
        return w == 0 ? p.parts() : w == 1 ? p.snapped() : p.gone();
    }

    private void lookAtIsle(int i, int w) {
        long want = Check.THROWN;
        if (model.isIsle(i) && w >= 0 && w <= 9) {
            Model.World now = model.now;
            int h = now.head[i];
            Model.Clause c = model.isles.get(i);
            want = new long[] {now.x(i), now.y(i), now.mass[h], h, now.scars[h], model.item(c, 'g'),
                model.item(c, 'n'), model.item(c, 'q'), model.item(c, 's'), now.price[i]}[w];
        }
        same("isle(" + i + ", " + w + ")", Check.isle(sea, i, w), want);
    }

    private void lookAtTie(int t, int w) {
        long want = Model.HIDDEN;
        if (t >= 0 && t < model.ties.size() && w >= 0 && w <= 4) {
            Model.Tie tie = model.told(model.now).get(t);
            want = new long[] {tie.first(), tie.second(), tie.kind(), tie.strength(), model.pullOf(model.now, tie)}[w];
        }
        same("tie(" + t + ", " + w + ")", sea.tie(t, w), want);
    }

    private void lookAtBridge(int b, int w) {
        long want = -1;
        if (b >= 0 && b < model.bridges.size() && w >= 0 && w <= 3) {
            Model.Clause c = model.bridges.get(b);
            want = new long[] {model.item(c, 'a'), model.item(c, 'b'), model.item(c, 'l'),
                model.now.stands[b] ? 1 : 0}[w];
        }
        same("bridge(" + b + ", " + w + ")", sea.bridge(b, w), want);
    }

    private void lookAtDraws() {
        int i = anyIsle();
        int t = any(0, Math.max(0, model.ties.size() - 1));
        int axis = any(0, 1);
        boolean can = model.isIsle(i) && axis >= 0 && axis <= 1;
        int want = Model.HIDDEN;
        if (can && t >= 0 && t < model.ties.size()) {
            Model.Tie tie = model.told(model.now).get(t);
            Model.World now = model.now;
            int pull = model.pullOf(now, tie);
            int far = Math.max(1, now.far(tie.first(), tie.second()));
            int way = axis == 0 ? now.x(tie.second()) - now.x(tie.first()) : now.y(tie.second()) - now.y(tie.first());
            want = now.head[i] == now.head[tie.first()] ? pull * way / far
                : now.head[i] == now.head[tie.second()] ? -(pull * way / far) : 0;
        }
        same("led(" + i + ", " + t + ", " + axis + ")", sea.led(i, t, axis), want);
        int goes = Model.HIDDEN;
        if (can) {
            int h = model.now.head[i];
            int from = model.now.place[h][axis];
            int by = model.draws(model.now, model.told(model.now))[h][axis] / model.now.mass[h];
            goes = Math.max(-999, Math.min(999, from + by)) - from;
        }
        same("drift(" + i + ", " + axis + ")", sea.drift(i, axis), goes);
    }

    private void lookAtTrade() {
        int i = anyIsle();
        int j = anyIsle();
        Model.Trades t = model.trade(model.now);
        same("buys(" + i + ", " + j + ")", sea.buys(i, j), model.two(i, j) ? t.amount()[i][j] : -1);
        same("pays(" + i + ")", sea.pays(i), model.isIsle(i) ? t.paid()[i] : -1);
        same("lacks(" + i + ")", sea.lacks(i), model.isIsle(i) ? t.lacking()[i] : -1);
        int good = any(0, 3);
        int what = any(0, 1);
        int who = -1;
        int most = 0;
        for (int s = 0; s < model.isles.size(); s++) {
            int sum = 0;
            for (int[] row : t.amount()) {
                sum += row[s];
            }
            if (model.item(model.isles.get(s), 'g') == good && sum > most) {
                who = s;
                most = sum;
            }
        }
        boolean can = who >= 0 && what >= 0 && what <= 1;
        same("monopoly(" + good + ", " + what + ")", sea.monopoly(good, what), can ? what == 0 ? who : most : -1);
        int least = -1;
        if (model.two(i, j)) {
            for (int cut = model.now.price[i]; cut >= 0; cut--) {
                Model.World w = model.now.copy();
                w.price[i] -= cut;
                least = model.trade(w).amount()[j][i] > 0 ? cut : least;
            }
        }
        same("undercut(" + i + ", " + j + ")", sea.undercut(i, j), least);
    }

    private void lookAtCounts() {
        boolean has = model.now != null;
        int w = any(0, 14);
        long want = Model.HIDDEN;
        if (w >= 0 && w <= 14) {
            want = new long[] {model.isles.size(), has ? model.now.heads().size() : 0, model.ties.size(),
                model.bridges.size(), model.pulls.size(), model.tape.length(), has ? model.now.season : 0, model.holds,
                has ? model.item(model.water, 'f') : 0, has ? model.item(model.water, 'j') : 0,
                has ? model.item(model.water, 'r') : 0, has ? model.item(model.water, 'c') : 0,
                model.charts.size(), model.undo.size(), model.put.size()}[w];
        }
        same("count(" + w + ")", sea.count(w), want);
    }

    // ---- what will be ----

    private static boolean in(int v, int least, int most) {
        return v >= least && v <= most;
    }

    private void foresee() {
        if (model.now == null) {
            return;
        }
        int i = anyIsle();
        int j = anyIsle();
        int n = random.nextInt(3) > 0 ? any(0, 20) : any(0, 60);
        int what = any(0, 1);
        switch (random.nextInt(8)) {
            case 0: {
                int w3 = any(0, 2);
                boolean can = model.isIsle(i) && in(n, 1, 60) && in(w3, 0, 2);
                long want = Model.HIDDEN;
                if (can) {
                    Model.World w = model.ahead(n, List.of()).get(n);
                    want = new long[] {w.x(i), w.y(i), w.head[i]}[w3];
                }
                same("ahead(" + i + ", " + n + ", " + w3 + ")", sea.ahead(i, n, w3), want);
                break;
            }
            case 1: same("rest(" + n + ")", sea.rest(n), in(n, 0, 60) ? model.rest(n) : -1); break;
            case 2: {
                boolean can = in(n, 1, 60) && in(what, 0, 1);
                same("round(" + n + ", " + what + ")", sea.round(n, what), can ? model.round(n, what) : -1);
                break;
            }
            case 3: {
                int want = -1;
                if (model.two(i, j) && in(n, 1, 60)) {
                    List<Model.World> worlds = model.ahead(n, List.of());
                    for (int k = n; k >= 0; k--) {
                        want = worlds.get(k).head[i] == worlds.get(k).head[j] ? k : want;
                    }
                }
                same("one(" + i + ", " + j + ", " + n + ")", sea.one(i, j, n), want);
                break;
            }
            case 4: {
                int want = -1;
                if (model.two(i, j) && in(n, 0, 60) && in(what, 0, 1)) {
                    TreeSet<Integer> all = new TreeSet<>();
                    List<Model.World> worlds = model.ahead(n, List.of());
                    for (int k = 0; k <= n; k++) {
                        all.add(worlds.get(k).far(i, j) * 100 + k);
                    }
                    want = what == 0 ? all.first() / 100 : all.first() % 100;
                }
                same("nearest(" + i + ", " + j + ", " + n + ", " + what + ")", sea.nearest(i, j, n, what), want);
                break;
            }
            case 5: {
                int b = any(0, Math.max(0, model.bridges.size() - 1));
                int want = -1;
                if (in(b, 0, model.bridges.size() - 1)) {
                    List<Model.World> worlds = model.ahead(60, List.of());
                    for (int k = 60; k >= 0; k--) {
                        want = worlds.get(k).stands[b] ? want : k;
                    }
                }
                same("snap(" + b + ")", sea.snap(b), want);
                break;
            }
            case 6: {
                int speed = random.nextBoolean() ? any(1, 4) : any(1, 99);
                boolean can = model.two(i, j) && in(speed, 1, 99) && in(what, 0, 1);
                same("sail(" + i + ", " + j + ", " + speed + ", " + what + ")", sea.sail(i, j, speed, what),
                    can ? model.sail(i, j, speed, 60)[what] : -1);
                break;
            }
            default: {
                n = any(1, 9);
                int want = -1;
                if (model.two(i, j) && in(n, 1, 60)) {
                    for (int speed = 99; speed > 0; speed--) {
                        want = model.sail(i, j, speed, n)[0] >= 0 ? speed : want;
                    }
                }
                same("haste(" + i + ", " + j + ", " + n + ")", sea.haste(i, j, n), want);
            }
        }
    }

    private void survey() {
        int i = anyIsle();
        int r = random.nextBoolean() ? any(0, 40) : any(0, 999);
        int what = any(0, 1);
        boolean canR = in(r, 0, 999) && model.now != null;
        boolean can = canR && model.isIsle(i);
        Model.World now = model.now;
        int sees = 0;
        int every = 0;
        int lands = 0;
        int largest = 0;
        int known = 0;
        int wide = -1;
        int which = -1;
        if (canR) {
            for (int h : now.heads()) {
                sees |= can && h != now.head[i] && now.far(h, i) <= r ? 1 << h : 0;
                every |= model.everywhere(now, h, r) ? 1 << h : 0;
                lands += (known >> h & 1) == 0 ? 1 : 0;
                known |= model.land(h, r);
                largest = Math.max(largest, Integer.bitCount(model.land(h, r)));
                for (int o : now.heads()) {
                    if (h < o && now.far(h, o) > wide) {
                        wide = now.far(h, o);
                        which = 10 * h + o;
                    }
                }
            }
        }
        same("sees(" + i + ", " + r + ")", sea.sees(i, r), can ? sees : -1);
        same("everywhere(" + r + ")", sea.everywhere(r), canR ? every : -1);
        same("lands(" + r + ", " + what + ")", sea.lands(r, what),
            canR && in(what, 0, 1) ? what == 0 ? lands : largest : -1);
        same("land(" + i + ", " + r + ")", sea.land(i, r), can ? model.land(now.head[i], r) : -1);
        if (canR) {
            same("wide(" + what + ")", sea.wide(what), what == 0 ? wide : what == 1 ? which : -1);
        }
        int n = any(0, 20);
        int want = -1;
        if (can && in(n, 0, 60)) {
            List<Model.World> worlds = model.ahead(n, List.of());
            for (int k = n; k >= 0; k--) {
                want = model.everywhere(worlds.get(k), worlds.get(k).head[i], r) ? k : want;
            }
        }
        same("when(" + i + ", " + r + ", " + n + ")", sea.when(i, r, n), want);
    }

    // ---- deals and charts ----

    private void plan() {
        if (model.now == null) {
            return;
        }
        int a = random.nextInt(model.isles.size());
        int b = random.nextInt(model.isles.size());
        int two = 10 * a + b;
        int strength = any(1, 9);
        switch (random.nextInt(6)) {
            case 0: {
                int far = any(0, model.isles.size() > 4 ? 3 : 20);
                int n = any(1, model.isles.size() > 4 ? 3 : 8);
                boolean can = a != b && in(far, 0, 999) && in(n, 1, 20) && in(strength, 1, 9);
                same("treaty(" + two + ", " + far + ", " + n + ", " + strength + ")",
                    sea.treaty(two, far, n, strength), can ? model.treaty(a, b, far, n, strength) : -1);
                break;
            }
            case 1: {
                int now = model.now.far(a, b);
                int near = Math.max(0, now - random.nextInt(15));
                int far = now + random.nextInt(15) - 3;
                int n = any(1, 6);
                int what = any(0, 1);
                boolean can = a != b && in(far, 0, 999) && in(near, 0, 999) && in(n, 1, 6) && in(strength, 1, 9)
                    && in(what, 0, 1);
                same("bicker(" + two + ", " + near + ", " + far + ", " + n + ", " + strength + ", " + what + ")",
                    sea.bicker(two, near, far, n, strength, what),
                    can ? model.bicker(a, b, new int[] {near, far}, n, strength, what) : -1);
                break;
            }
            case 2: case 3: addChart(); break;
            case 4: {
                List<Integer> found = model.fits();
                same("fits(-1)", sea.fits(-1), found.size());
                int i = any(-1, found.size());
                same("fits(" + i + ")", sea.fits(i), i == -1 ? found.size() : in(i, 0, found.size() - 1) ? found.get(i) : -1);
                break;
            }
            default: {
                List<Integer> found = model.secrets();
                same("secret(-1)", sea.secret(-1), found.size());
                int i = any(-1, found.size());
                same("secret(" + i + ")", sea.secret(i), i == -1 ? found.size() : in(i, 0, found.size() - 1) ? found.get(i) : -1);
            }
        }
    }

    private void addChart() {
        int season = any(1, random.nextInt(3) > 0 ? 3 : 20);
        int i = anyIsle();
        boolean can = model.isIsle(i) && in(season, 1, 20) && model.charts.size() < 20;
        int x = any(-999, 999);
        int y = any(-999, 999);
        if (can && random.nextInt(8) > 0) {
            Model.World w = model.ahead(season, List.of()).get(season);
            x = w.x(i);
            y = w.y(i);
        }
        can = can && in(x, -999, 999) && in(y, -999, 999);
        if (can) {
            model.charts.add(new Model.Chart(season, i, x, y));
        }
        same("chart(" + season + ", " + i + ", " + x + ", " + y + ")", sea.chart(season, i, x, y),
            can ? model.charts.size() : -1);
    }
}
