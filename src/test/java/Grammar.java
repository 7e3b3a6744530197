import java.util.ArrayList;
import java.util.HashMap;
import java.util.LinkedHashSet;
import java.util.List;
import java.util.Map;
import java.util.Set;

/**
 * The document's grammar as plain rules, and an Earley chart over them: it tells the first token with which no text
 * goes on, without anything of how the program parses.
 */
final class Grammar {
    private static final Map<String, List<String[]>> RULES = new HashMap<>();

    static {
        rule("text", "");
        rule("text", "text TELL");
        rule("TELL", "man NAME INT INT ;");
        rule("TELL", "excuse NAME INT INT INT INT ;");
        rule("TELL", "excuse NAME INT INT INT INT once ;");
        rule("TELL", "duty NAME NAME INT INT ;");
        rule("TELL", "knows NAME NAME ;");
        rule("TELL", "test NAME NAMES ;");
        rule("NAMES", "");
        rule("NAMES", "NAMES NAME");
        rule("TELL", "passes LAW ;");
        rule("TELL", "wears LAW ;");
        rule("TELL", "rain INT ;");
        rule("TELL", "coins INT ;");
        rule("TELL", "seed INT ;");
        rule("LAW", "= IFS E");
        rule("IFS", "");
        rule("IFS", "IFS if E < E then E else");
        rule("E", "PART");
        rule("E", "E + PART");
        rule("E", "E - PART");
        rule("PART", "UNIT");
        rule("PART", "PART * UNIT");
        rule("PART", "PART / UNIT");
        rule("UNIT", "INT");
        rule("UNIT", "( E )");
        for (String name : "day strong wear trust kind ago wet hours heard".split(" ")) {
            rule("UNIT", name);
        }
    }

    private record Item(String left, String[] right, int dot, int from) {
        String next() {
            return dot < right.length ? right[dot] : null;
        }

        Item moved() {
            return new Item(left, right, dot + 1, from);
        }
    }

    private Grammar() {
    }

    private static void rule(String left, String right) {
        RULES.computeIfAbsent(left, k -> new ArrayList<>()).add(right.isEmpty() ? new String[0] : right.split(" "));
    }

    /** The index of the first token with which no text goes on; their number if the end is that; -1 if it is a text. */
    static int firstWrong(List<String> tokens) {
        List<Set<Item>> chart = new ArrayList<>();
        chart.add(new LinkedHashSet<>());
        predict(chart, 0, "text");
        for (int i = 0; ; i++) {
            complete(chart, i);
            if (i == tokens.size()) {
                for (Item item : chart.get(i)) {
                    if (item.left().equals("text") && item.next() == null && item.from() == 0) {
                        return -1;
                    }
                }
                return i;
            }
            Set<Item> after = new LinkedHashSet<>();
            for (Item item : chart.get(i)) {
                if (tokens.get(i).equals(item.next())) {
                    after.add(item.moved());
                }
            }
            if (after.isEmpty()) {
                return i;
            }
            chart.add(after);
        }
    }

    private static void predict(List<Set<Item>> chart, int at, String left) {
        for (String[] right : RULES.get(left)) {
            chart.get(at).add(new Item(left, right, 0, at));
        }
    }

    private static void complete(List<Set<Item>> chart, int at) {
        boolean grows = true;
        while (grows) {
            int before = chart.get(at).size();
            for (Item item : new ArrayList<>(chart.get(at))) {
                if (item.next() == null) {
                    for (Item waiting : new ArrayList<>(chart.get(item.from()))) {
                        if (item.left().equals(waiting.next())) {
                            chart.get(at).add(waiting.moved());
                        }
                    }
                } else if (RULES.containsKey(item.next())) {
                    predict(chart, at, item.next());
                }
            }
            grows = chart.get(at).size() > before;
        }
    }
}
