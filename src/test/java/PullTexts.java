import java.util.Random;

/** Random PULLS that keep to the grammar, now and then too deep by one. */
final class PullTexts {
    private PullTexts() { }

    static String pull(Random random) {
        StringBuilder text = new StringBuilder();
        int clauses = 1 + random.nextInt(3);
        for (int i = 0; i < clauses; i++) {
            text.append(i > 0 ? ";" : "").append(blank(random)).append("y").append(blank(random)).append(":");
            if (random.nextInt(3) > 0) {
                text.append(condition(random, 0)).append(blank(random)).append("?");
            }
            text.append(sum(random, 0)).append(blank(random));
        }
        return text.toString();
    }

    private static String condition(Random random, int depth) {
        String text = truth(random, depth);
        return random.nextInt(4) == 0 ? text + blank(random) + "|" + truth(random, depth) : text;
    }

    private static String truth(Random random, int depth) {
        String text = unit(random, depth);
        return random.nextInt(4) == 0 ? text + blank(random) + "&" + unit(random, depth) : text;
    }

    private static String unit(Random random, int depth) {
        int what = depth > 6 ? 9 : random.nextInt(7);
        if (what < 2) {
            return blank(random) + "!" + unit(random, depth + 1);
        }
        if (what < 4) {
            return blank(random) + "(" + condition(random, depth + 1) + blank(random) + ")";
        }
        return sum(random, depth) + blank(random) + "=<>".charAt(random.nextInt(3)) + sum(random, depth);
    }

    private static String sum(Random random, int depth) {
        StringBuilder text = new StringBuilder(term(random, depth));
        while (random.nextInt(3) == 0) {
            text.append(blank(random)).append("+-".charAt(random.nextInt(2))).append(term(random, depth));
        }
        return text.toString();
    }

    private static String term(Random random, int depth) {
        StringBuilder text = new StringBuilder(atom(random, depth));
        while (random.nextInt(3) == 0) {
            text.append(blank(random)).append("*/".charAt(random.nextInt(2))).append(atom(random, depth));
        }
        return text.toString();
    }

    private static String atom(Random random, int depth) {
        int what = random.nextInt(8);
        if (what == 0 && depth <= 6) {
            return blank(random) + "[" + sum(random, depth + 1) + blank(random) + "]";
        }
        if (what < 4) {
            int bound = new int[] {3, 10, 100, 10000}[random.nextInt(4)];
            return blank(random) + random.nextInt(bound);
        }
        return blank(random) + "dwkmnh".charAt(random.nextInt(6));
    }

    private static String blank(Random random) {
        return random.nextInt(12) == 0 ? " " : "";
    }
}
