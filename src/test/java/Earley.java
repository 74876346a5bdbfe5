import java.util.ArrayList;
import java.util.HashMap;
import java.util.HashSet;
import java.util.List;
import java.util.Map;

/** The grammar of PULLS as the document tells it, and where a text first can't go on by it. */
final class Earley {
    private record Item(String left, List<String> right, int dot, int from) { }

    private static final int DEEPEST = 6;
    private final Map<String, List<List<String>>> grammar = new HashMap<>();

    Earley() {
        put("TEXT", "BLANKS", "CLAUSES");
        put("CLAUSES", "CLAUSE");
        put("CLAUSES", "CLAUSE", "~;", "CLAUSES");
        put("CLAUSE", "~y", "~:", "SUM0");
        put("CLAUSE", "~y", "~:", "CONDITION0", "~?", "SUM0");
        put("BLANKS");
        put("BLANKS", " ", "BLANKS");
        put("D1", "DIGIT");
        put("D2", "DIGIT", "DIGIT");
        put("D3", "DIGIT", "DIGIT", "DIGIT");
        put("D4", "DIGIT", "DIGIT", "DIGIT", "DIGIT");
        for (char d = '0'; d <= '9'; d++) {
            put("DIGIT", String.valueOf(d));
        }
        for (char sign : "y:;?|&!()=<>+-*/[]dwkmnh".toCharArray()) {
            put("~" + sign, String.valueOf(sign), "BLANKS");
        }
        for (int d = 0; d <= DEEPEST; d++) {
            level(d);
        }
    }

    private void level(int d) {
        put("CONDITION" + d, "TRUTH" + d);
        put("CONDITION" + d, "TRUTH" + d, "~|", "CONDITION" + d);
        put("TRUTH" + d, "UNIT" + d);
        put("TRUTH" + d, "UNIT" + d, "~&", "TRUTH" + d);
        for (String sign : new String[] {"~=", "~<", "~>"}) {
            put("UNIT" + d, "SUM" + d, sign, "SUM" + d);
        }
        put("SUM" + d, "TERM" + d);
        put("SUM" + d, "TERM" + d, "~+", "SUM" + d);
        put("SUM" + d, "TERM" + d, "~-", "SUM" + d);
        put("TERM" + d, "ATOM" + d);
        put("TERM" + d, "ATOM" + d, "~*", "TERM" + d);
        put("TERM" + d, "ATOM" + d, "~/", "TERM" + d);
        for (int digits = 1; digits <= 4; digits++) {
            put("ATOM" + d, "D" + digits, "BLANKS");
        }
        for (char letter : "dwkmnh".toCharArray()) {
            put("ATOM" + d, "~" + letter);
        }
        if (d < DEEPEST) {
            put("UNIT" + d, "~!", "UNIT" + (d + 1));
            put("UNIT" + d, "~(", "CONDITION" + (d + 1), "~)");
            put("ATOM" + d, "~[", "SUM" + (d + 1), "~]");
        }
    }

    private void put(String left, String... right) {
        grammar.computeIfAbsent(left, k -> new ArrayList<>()).add(List.of(right));
    }

    /** -1: the text is whole. */
    int fault(String text) {
        List<List<Item>> sets = new ArrayList<>();
        List<Item> first = new ArrayList<>();
        for (List<String> right : grammar.get("TEXT")) {
            first.add(new Item("TEXT", right, 0, 0));
        }
        sets.add(first);
        for (int at = 0; at <= text.length(); at++) {
            List<Item> next = step(sets, at, at < text.length() ? text.substring(at, at + 1) : null);
            if (at == text.length()) {
                break;
            }
            if (next.isEmpty()) {
                return at;
            }
            sets.add(next);
        }
        for (Item item : sets.get(text.length())) {
            if (item.left.equals("TEXT") && item.dot == item.right.size()) {
                return -1;
            }
        }
        return text.length();
    }

    private List<Item> step(List<List<Item>> sets, int at, String sign) {
        List<Item> here = sets.get(at);
        HashSet<Item> known = new HashSet<>(here);
        List<Item> next = new ArrayList<>();
        for (int i = 0; i < here.size(); i++) {
            Item item = here.get(i);
            if (item.dot == item.right.size()) {
                List<Item> origin = sets.get(item.from);
                for (int k = 0; k < origin.size(); k++) {
                    Item waiting = origin.get(k);
                    if (waiting.dot < waiting.right.size() && waiting.right.get(waiting.dot).equals(item.left)) {
                        add(here, known, new Item(waiting.left, waiting.right, waiting.dot + 1, waiting.from));
                    }
                }
                continue;
            }
            String symbol = item.right.get(item.dot);
            if (!grammar.containsKey(symbol)) {
                if (symbol.equals(sign)) {
                    next.add(new Item(item.left, item.right, item.dot + 1, item.from));
                }
                continue;
            }
            for (List<String> right : grammar.get(symbol)) {
                add(here, known, new Item(symbol, right, 0, at));
            }
            if (symbol.equals("BLANKS")) {
                add(here, known, new Item(item.left, item.right, item.dot + 1, item.from));
            }
        }
        return next;
    }

    private static void add(List<Item> set, HashSet<Item> known, Item item) {
        if (known.add(item)) {
            set.add(item);
        }
    }
}
