import java.util.ArrayDeque;
import java.util.ArrayList;
import java.util.Arrays;
import java.util.Deque;
import java.util.HashMap;
import java.util.HashSet;
import java.util.List;
import java.util.Map;
import java.util.Set;
import java.util.TreeSet;
import java.util.regex.Matcher;
import java.util.regex.Pattern;

/** The document once more, slow and by other ways than the program's: what both answer is compared. */
final class Model {
    static final int NONE = -1;
    private static final Set<String> WORDS = Set.of("man", "excuse", "once", "duty", "knows", "test", "passes", "wears",
        "rain", "coins", "seed", "if", "then", "else", "day", "strong", "wear", "trust", "kind", "ago", "wet", "hours", "heard");
    private static final Pattern ITEM = Pattern.compile("[a-z]+|[0-9]+|[^ \t\n\r]", Pattern.DOTALL);

    private record Token(String kind, String body, int place) { }

    private record Man(String name, int trust, int mends) { }

    private record Excuse(String name, int price, int good, int kind, int strong, boolean once) { }

    private record Duty(String name, int man, int day, int hours) { }

    /** An EXCUSE that was told, or would be. */
    private record Tale(int excuse, int man, int day, boolean caught) { }

    private static final class Script {
        final List<Man> men = new ArrayList<>();
        final List<Excuse> excuses = new ArrayList<>();
        final List<Duty> duties = new ArrayList<>();
        final List<Set<Integer>> tests = new ArrayList<>();
        final boolean[][] knows = new boolean[5][5];
        List<String> passes = List.of("50");
        List<String> wears = List.of("10");
        int rain = 0;
        int coins = 50;
        int seed = 0;
    }

    private static final class World {
        int day = 0;
        int coins = 50;
        int hours = 0;
        Set<Integer> has = new TreeSet<>();
        int[] trust = new int[5];
        Map<Integer, Integer> plans = new HashMap<>();
        Map<Integer, Integer> ends = new HashMap<>();
        List<Tale> tales = new ArrayList<>();

        World twin() {
            World w = new World();
            w.day = day;
            w.coins = coins;
            w.hours = hours;
            w.has = new TreeSet<>(has);
            w.trust = trust.clone();
            w.plans = new HashMap<>(plans);
            w.ends = new HashMap<>(ends);
            w.tales = new ArrayList<>(tales);
            return w;
        }

        int ended(int how) {
            int bits = 0;
            for (Map.Entry<Integer, Integer> end : ends.entrySet()) {
                bits |= end.getValue() == how ? 1 << end.getKey() : 0;
            }
            return bits;
        }
    }

    private static final class Zero extends Exception {
        private static final long serialVersionUID = 1;
    }

    private final StringBuilder tape = new StringBuilder();
    private int place = NONE;
    private Script script = new Script();
    private World world = new World();
    private final Deque<World> past = new ArrayDeque<>();
    private final World[] slots = new World[3];
    private final List<int[]> said = new ArrayList<>();
    private final List<int[]> known = new ArrayList<>();

    int feed(int a, int b, int c, int d, int e) {
        if (tape.length() + 20 > 2000) {
            return NONE;
        }
        for (int word : new int[] {a, b, c, d, e}) {
            tape.append((char) (word >> 24 & 255)).append((char) (word >> 16 & 255));
            tape.append((char) (word >> 8 & 255)).append((char) (word & 255));
        }
        return tape.length();
    }

    int back(int n) {
        if (n < 0 || n > tape.length()) {
            return NONE;
        }
        tape.setLength(tape.length() - n);
        return tape.length();
    }

    // ---- the text

    private static List<Token> tokens(String text) {
        List<Token> all = new ArrayList<>();
        Matcher m = ITEM.matcher(text);
        while (m.find()) {
            String s = m.group();
            String kind = "?";
            if (s.matches("[a-z]{1,8}")) {
                kind = WORDS.contains(s) ? s : "NAME";
            } else if (s.matches("[0-9]{1,4}")) {
                kind = "INT";
            } else if (s.matches("[-;=+*/<()]")) {
                kind = s;
            }
            all.add(new Token(kind, s, m.start()));
        }
        return all;
    }

    private static final class Faults {
        int number = 0;
        int place = NONE;

        void add(int number, int place) {
            if (this.number == 0 || place < this.place || place == this.place && number < this.number) {
                this.number = number;
                this.place = place;
            }
        }
    }

    int read() {
        String text = tape.toString();
        tape.setLength(0);
        List<Token> tokens = tokens(text);
        Faults faults = new Faults();
        List<String> kinds = new ArrayList<>();
        for (Token t : tokens) {
            kinds.add(t.kind());
        }
        int wrong = Grammar.firstWrong(kinds);
        if (wrong >= 0) {
            faults.add(1, wrong == tokens.size() ? text.length() : tokens.get(wrong).place());
        }
        rooms(tokens, faults);
        Script next = new Script();
        if (faults.number == 0) {
            tell(tokens, next, faults);
        }
        place = faults.place;
        if (faults.number == 0) {
            script = next;
            world = new World();
            world.coins = script.coins;
            for (int m = 0; m < script.men.size(); m++) {
                world.trust[m] = script.men.get(m).trust();
            }
            past.clear();
            said.clear();
            known.clear();
            Arrays.fill(slots, null);
        }
        return faults.number;
    }

    private static void rooms(List<Token> tokens, Faults faults) {
        if (tokens.size() > 400) {
            faults.add(2, tokens.get(400).place());
        }
        Map<String, Integer> most = Map.of("man", 5, "excuse", 7, "duty", 9, "knows", 8, "test", 6);
        Map<String, Integer> seen = new HashMap<>();
        int ifs = 0;
        int open = 0;
        for (int i = 0; i < tokens.size(); i++) {
            Token t = tokens.get(i);
            if (i == 0 || tokens.get(i - 1).kind().equals(";")) {
                ifs = 0;
                open = 0;
                if (most.containsKey(t.kind()) && seen.merge(t.kind(), 1, Integer::sum) > most.get(t.kind())) {
                    faults.add(2, t.place());
                }
            }
            if (t.kind().equals("if") && ++ifs > 4) {
                faults.add(2, t.place());
            }
            if (t.kind().equals("(") && ++open > 6) {
                faults.add(2, t.place());
            }
            if (t.kind().equals(")")) {
                open--;
            }
        }
    }

    private static int value(Token t, int least, int most, Faults faults) {
        int value = Integer.parseInt(t.body());
        if (value < least || value > most) {
            faults.add(5, t.place());
        }
        return value;
    }

    private static void fresh(Token t, List<String> names, String sort, Faults faults) {
        for (String name : names) {
            if (name.endsWith(":" + t.body())) {
                faults.add(3, t.place());
            }
        }
        names.add(sort + ":" + t.body());
    }

    /** The number of a NAME among its sort: that of the first one of the name. */
    private static int look(Token t, List<String> names, String sort, Faults faults) {
        int number = 0;
        for (String name : names) {
            if (name.endsWith(":" + t.body())) {
                if (name.startsWith(sort + ":")) {
                    return number;
                }
                break;
            }
            number += name.startsWith(sort + ":") ? 1 : 0;
        }
        faults.add(4, t.place());
        return NONE;
    }

    private static void tell(List<Token> tokens, Script s, Faults faults) {
        List<String> names = new ArrayList<>();
        int from = 0;
        while (from < tokens.size()) {
            int to = from;
            while (!tokens.get(to).kind().equals(";")) {
                to++;
            }
            tellOne(tokens.subList(from, to), s, names, faults);
            from = to + 1;
        }
    }

    private static void tellOne(List<Token> t, Script s, List<String> names, Faults f) {
        switch (t.get(0).kind()) {
            case "man" -> {
                fresh(t.get(1), names, "man", f);
                s.men.add(new Man(t.get(1).body(), value(t.get(2), 0, 99, f), value(t.get(3), 0, 9, f)));
            }
            case "excuse" -> {
                fresh(t.get(1), names, "excuse", f);
                s.excuses.add(new Excuse(t.get(1).body(), value(t.get(2), 0, 99, f), value(t.get(3), 0, 99, f),
                    value(t.get(4), 0, 9, f), value(t.get(5), 0, 99, f), t.size() == 7));
            }
            case "duty" -> {
                fresh(t.get(1), names, "duty", f);
                s.duties.add(new Duty(t.get(1).body(), look(t.get(2), names, "man", f), value(t.get(3), 0, 99, f),
                    value(t.get(4), 1, 9, f)));
            }
            case "knows" -> {
                int a = look(t.get(1), names, "man", f);
                int b = look(t.get(2), names, "man", f);
                if (t.get(1).body().equals(t.get(2).body())) {
                    f.add(3, t.get(2).place());
                }
                if (a >= 0 && b >= 0) {
                    s.knows[a][b] = true;
                    s.knows[b][a] = true;
                }
            }
            case "test" -> {
                fresh(t.get(1), names, "test", f);
                Set<Integer> rings = new HashSet<>();
                Set<String> bodies = new HashSet<>();
                for (Token one : t.subList(2, t.size())) {
                    rings.add(look(one, names, "excuse", f));
                    if (!bodies.add(one.body())) {
                        f.add(3, one.place());
                    }
                }
                s.tests.add(rings);
            }
            case "passes" -> s.passes = bodies(t.subList(2, t.size()));
            case "wears" -> s.wears = bodies(t.subList(2, t.size()));
            case "rain" -> s.rain = value(t.get(1), 0, 100, f);
            case "coins" -> s.coins = value(t.get(1), 0, 999, f);
            default -> s.seed = value(t.get(1), 0, 9999, f);
        }
    }

    private static List<String> bodies(List<Token> tokens) {
        List<String> all = new ArrayList<>();
        for (Token t : tokens) {
            all.add(t.body());
        }
        return all;
    }

    int place() {
        return place;
    }

    // ---- laws

    private static int law(List<String> law, Map<String, Integer> vars) {
        try {
            return lawOrZero(law, vars);
        } catch (Zero z) {
            return 0;
        }
    }

    private static int lawOrZero(List<String> law, Map<String, Integer> vars) throws Zero {
        if (!law.get(0).equals("if")) {
            return value(law, vars);
        }
        int less = law.indexOf("<");
        int then = law.indexOf("then");
        int other = law.indexOf("else");
        int left = value(law.subList(1, less), vars);
        int right = value(law.subList(less + 1, then), vars);
        if (left < right) {
            return value(law.subList(then + 1, other), vars);
        }
        return lawOrZero(law.subList(other + 1, law.size()), vars);
    }

    /** Splits an E at its last sign of the lowest rank outside of brackets. */
    private static int value(List<String> e, Map<String, Integer> vars) throws Zero {
        for (String signs : new String[] {"+-", "*/"}) {
            int depth = 0;
            for (int i = e.size() - 1; i > 0; i--) {
                String s = e.get(i);
                depth += s.equals(")") ? 1 : s.equals("(") ? -1 : 0;
                if (depth == 0 && signs.contains(s)) {
                    int left = value(e.subList(0, i), vars);
                    int right = value(e.subList(i + 1, e.size()), vars);
                    if (s.equals("/") && right == 0) {
                        throw new Zero();
                    }
                    long exact = switch (s) {
                        case "+" -> (long) left + right;
                        case "-" -> (long) left - right;
                        case "*" -> (long) left * right;
                        default -> (long) left / right;
                    };
                    return (int) exact;
                }
            }
        }
        if (e.get(0).equals("(")) {
            return value(e.subList(1, e.size() - 1), vars);
        }
        return vars.containsKey(e.get(0)) ? vars.get(e.get(0)) : Integer.parseInt(e.get(0));
    }

    static int lot(int n, int seed, int which) {
        long h = seed;
        for (int it : new int[] {61, which}) {
            h = ((h ^ it) & 0xffffffffL) * 1103515245L + 12345L & 0xffffffffL;
            h = h ^ h >> 15;
        }
        return (int) ((h >> 1) % n);
    }

    private boolean wet(int seed, int day) {
        return lot(100, seed, 16 * day) < script.rain;
    }

    private Map<String, Integer> vars(World w, int seed, int excuse, int man, int hours) {
        Excuse e = script.excuses.get(excuse);
        int wear = 0;
        int ago = 99;
        Set<Integer> heard = new HashSet<>();
        for (Tale t : w.tales) {
            if (t.excuse() == excuse && t.man() == man) {
                wear++;
                ago = w.day - t.day();
            }
            if (t.day() == w.day && script.knows[man][t.man()] && script.excuses.get(t.excuse()).kind() != e.kind()) {
                heard.add(t.man());
            }
        }
        Map<String, Integer> vars = new HashMap<>();
        vars.put("day", w.day);
        vars.put("strong", e.strong());
        vars.put("wear", wear);
        vars.put("trust", w.trust[man]);
        vars.put("kind", e.kind());
        vars.put("ago", ago);
        vars.put("wet", wet(seed, w.day) ? 1 : 0);
        vars.put("hours", hours);
        vars.put("heard", heard.size());
        return vars;
    }

    private int passes(World w, int seed, int excuse, int man, int hours) {
        int p = law(script.passes, vars(w, seed, excuse, man, hours));
        return w.day > script.excuses.get(excuse).good() ? 0 : p < 0 ? 0 : p > 100 ? 100 : p;
    }

    private int wears(World w, int seed, int excuse, int man, int hours) {
        int p = law(script.wears, vars(w, seed, excuse, man, hours));
        return p < 0 ? 0 : p > 99 ? 99 : p;
    }

    // ---- a day

    private void night(World w) {
        for (int m = 0; m < script.men.size(); m++) {
            w.trust[m] = Math.min(99, w.trust[m] + script.men.get(m).mends());
        }
        w.day++;
    }

    private void day(World w, int seed) {
        for (int d = 0; d < script.duties.size(); d++) {
            Duty duty = script.duties.get(d);
            if (duty.day() != w.day) {
                continue;
            }
            Integer e = w.plans.get(d);
            if (e == null || !w.has.contains(e)) {
                w.ends.put(d, 3);
                w.hours += duty.hours();
                continue;
            }
            int passes = passes(w, seed, e, duty.man(), duty.hours());
            int less = wears(w, seed, e, duty.man(), duty.hours());
            boolean free = lot(100, seed, 16 * w.day + 1 + d) < passes;
            w.ends.put(d, free ? 1 : 2);
            w.hours += free ? 0 : duty.hours();
            w.trust[duty.man()] = Math.max(0, w.trust[duty.man()] - (free ? less : 2 * less));
            w.tales.add(new Tale(e, duty.man(), w.day, !free));
            if (script.excuses.get(e).once()) {
                w.has.remove(e);
            }
        }
        night(w);
    }

    private World after(int n, int seed) {
        World w = world.twin();
        for (int i = 0; i < n; i++) {
            day(w, seed);
        }
        return w;
    }

    // ---- asked of things

    private boolean man(int man) {
        return man >= 0 && man < script.men.size();
    }

    private boolean excuse(int excuse) {
        return excuse >= 0 && excuse < script.excuses.size();
    }

    private boolean duty(int duty) {
        return duty >= 0 && duty < script.duties.size();
    }

    int man(int man, int what) {
        if (!man(man) || what < 0 || what > 4) {
            return NONE;
        }
        int friends = 0;
        for (int m = 0; m < 5; m++) {
            friends |= script.knows[man][m] ? 1 << m : 0;
        }
        int told = 0;
        int caught = 0;
        for (Tale t : world.tales) {
            told += t.man() == man ? 1 : 0;
            caught += t.man() == man && t.caught() ? 1 : 0;
        }
        return new int[] {world.trust[man], script.men.get(man).mends(), friends, told, caught}[what];
    }

    int excuse(int excuse, int what) {
        if (!excuse(excuse) || what < 0 || what > 6) {
            return NONE;
        }
        Excuse e = script.excuses.get(excuse);
        int told = 0;
        for (Tale t : world.tales) {
            told += t.excuse() == excuse ? 1 : 0;
        }
        int plans = 0;
        for (Map.Entry<Integer, Integer> plan : world.plans.entrySet()) {
            plans |= plan.getValue() == excuse ? 1 << plan.getKey() : 0;
        }
        return new int[] {e.price(), e.good(), e.kind(), e.strong(), world.has.contains(excuse) ? 1 : 0, told, plans}[what];
    }

    int duty(int duty, int what) {
        if (!duty(duty) || what < 0 || what > 4) {
            return NONE;
        }
        Duty d = script.duties.get(duty);
        return new int[] {d.man(), d.day(), d.hours(), world.plans.getOrDefault(duty, -2),
            world.ends.getOrDefault(duty, 0)}[what];
    }

    int told(int excuse, int man, boolean last) {
        if (!excuse(excuse) || !man(man)) {
            return NONE;
        }
        int often = 0;
        int day = -2;
        for (Tale t : world.tales) {
            if (t.excuse() == excuse && t.man() == man) {
                often++;
                day = t.day();
            }
        }
        return last ? day : often;
    }

    int rains(int day) {
        return day < 0 || day > 999 ? NONE : wet(script.seed, day) ? 1 : 0;
    }

    // ---- things done

    private void doing() {
        past.addLast(world.twin());
        if (past.size() > 40) {
            past.removeFirst();
        }
    }

    int buy(int excuse) {
        if (!excuse(excuse)) {
            return NONE;
        }
        if (world.has.contains(excuse) || world.coins < script.excuses.get(excuse).price()) {
            return -2;
        }
        doing();
        world.has.add(excuse);
        world.coins -= script.excuses.get(excuse).price();
        return world.coins;
    }

    int sell(int excuse) {
        if (!excuse(excuse)) {
            return NONE;
        }
        if (!world.has.contains(excuse)) {
            return -2;
        }
        doing();
        world.has.remove(excuse);
        world.coins += script.excuses.get(excuse).price() / 2;
        return world.coins;
    }

    boolean plan(int duty, int excuse) {
        if (!duty(duty) || world.ends.containsKey(duty)) {
            return false;
        }
        if (excuse == NONE) {
            if (!world.plans.containsKey(duty)) {
                return false;
            }
            doing();
            world.plans.remove(duty);
            return true;
        }
        if (!excuse(excuse) || !world.has.contains(excuse) || world.plans.getOrDefault(duty, -2) == excuse) {
            return false;
        }
        doing();
        world.plans.put(duty, excuse);
        return true;
    }

    int days(int n) {
        if (n < 0 || n > 60) {
            return NONE;
        }
        if (n > 0) {
            doing();
            world = after(n, script.seed);
        }
        return world.day;
    }

    boolean undo() {
        if (past.isEmpty()) {
            return false;
        }
        world = past.removeLast();
        return true;
    }

    // ---- what would be

    int pass(int excuse, int duty) {
        if (!excuse(excuse) || !duty(duty)) {
            return NONE;
        }
        return passes(world, script.seed, excuse, script.duties.get(duty).man(), script.duties.get(duty).hours());
    }

    int planned(int n, int what) {
        if (n < 0 || n > 30 || what < 0 || what > 3) {
            return NONE;
        }
        World w = after(n, script.seed);
        if (what == 3) {
            return w.hours - world.hours;
        }
        return Integer.bitCount(w.ended(what + 1)) - Integer.bitCount(world.ended(what + 1));
    }

    int trust(int man, int n) {
        return !man(man) || n < 0 || n > 30 ? NONE : after(n, script.seed).trust[man];
    }

    int year(int n, int s) {
        if (n < 0 || n > 30 || s < 1 || s > 20) {
            return NONE;
        }
        int sum = 0;
        for (int seed = script.seed; seed < script.seed + s; seed++) {
            sum += Integer.bitCount(after(n, seed).ended(1)) - Integer.bitCount(world.ended(1));
        }
        return sum;
    }

    private List<Integer> members(int set) {
        List<Integer> all = new ArrayList<>();
        for (int d = 0; d < 32; d++) {
            if ((set >>> d & 1) != 0) {
                all.add(d);
            }
        }
        return all;
    }

    private boolean noShopping(int set, int p) {
        List<Integer> all = members(set);
        if (all.isEmpty() || all.size() > 3 || p < 0 || p > 100) {
            return true;
        }
        return all.get(all.size() - 1) >= script.duties.size();
    }

    private int bestCoins;
    private List<Integer> bestRow;

    private void shop(int set, int p) {
        bestCoins = -2;
        bestRow = null;
        for (int d : members(set)) {
            if (world.ends.containsKey(d)) {
                return;
            }
        }
        tryRows(members(set), new ArrayList<>(), p);
    }

    private void tryRows(List<Integer> duties, List<Integer> row, int p) {
        if (row.size() < duties.size()) {
            for (int e = 0; e < script.excuses.size(); e++) {
                row.add(e);
                tryRows(duties, row, p);
                row.remove(row.size() - 1);
            }
            return;
        }
        Map<Integer, Integer> plan = new HashMap<>();
        int coins = 0;
        for (int i = 0; i < row.size(); i++) {
            plan.put(duties.get(i), row.get(i));
        }
        for (int e : new HashSet<>(row)) {
            coins += world.has.contains(e) ? 0 : script.excuses.get(e).price();
        }
        if ((bestCoins == -2 || coins < bestCoins) && passesAll(plan, p)) {
            bestCoins = coins;
            bestRow = new ArrayList<>(row);
        }
    }

    private boolean passesAll(Map<Integer, Integer> plan, int p) {
        World w = world.twin();
        Set<Integer> gone = new HashSet<>();
        while (w.day <= 99) {
            for (int d = 0; d < script.duties.size(); d++) {
                Duty duty = script.duties.get(d);
                if (duty.day() != w.day || !plan.containsKey(d)) {
                    continue;
                }
                int e = plan.get(d);
                if (gone.contains(e) || passes(w, script.seed, e, duty.man(), duty.hours()) < p) {
                    return false;
                }
                int less = wears(w, script.seed, e, duty.man(), duty.hours());
                w.trust[duty.man()] = Math.max(0, w.trust[duty.man()] - less);
                w.tales.add(new Tale(e, duty.man(), w.day, false));
                if (script.excuses.get(e).once()) {
                    gone.add(e);
                }
            }
            night(w);
        }
        return true;
    }

    int cheapest(int set, int p) {
        if (noShopping(set, p)) {
            return NONE;
        }
        shop(set, p);
        return bestCoins;
    }

    int cheapestAt(int set, int p, int i) {
        if (noShopping(set, p) || i < 0 || i >= members(set).size()) {
            return NONE;
        }
        shop(set, p);
        return bestRow == null ? -2 : bestRow.get(i);
    }

    int two(int i) {
        Set<Integer> pairs = new TreeSet<>();
        for (Tale a : world.tales) {
            for (Tale b : world.tales) {
                boolean kinds = script.excuses.get(a.excuse()).kind() != script.excuses.get(b.excuse()).kind();
                if (a.day() == b.day() && a.man() < b.man() && script.knows[a.man()][b.man()] && kinds) {
                    pairs.add(10 * a.man() + b.man());
                }
            }
        }
        return i == NONE ? pairs.size() : i < 0 || i >= pairs.size() ? NONE : new ArrayList<>(pairs).get(i);
    }

    int rumour(int man, int n) {
        if (!man(man) || n < NONE || n > 9) {
            return NONE;
        }
        // rounds by the shortest ways
        int[][] far = new int[5][5];
        for (int a = 0; a < 5; a++) {
            for (int b = 0; b < 5; b++) {
                far[a][b] = a == b ? 0 : script.knows[a][b] ? 1 : 1000;
            }
        }
        for (int c = 0; c < 5; c++) {
            for (int a = 0; a < 5; a++) {
                for (int b = 0; b < 5; b++) {
                    far[a][b] = Math.min(far[a][b], far[a][c] + far[c][b]);
                }
            }
        }
        int bits = 0;
        int longest = 0;
        for (int b = 0; b < 5; b++) {
            bits |= far[man][b] <= n ? 1 << b : 0;
            longest = far[man][b] < 1000 ? Math.max(longest, far[man][b]) : longest;
        }
        return n == NONE ? longest : bits;
    }

    int apart(int what) {
        if (what < 0 || what > 1) {
            return NONE;
        }
        for (int many = 0; many <= script.tests.size(); many++) {
            for (int set = 0; set < 64; set++) {
                if (Integer.bitCount(set) != many || set >= 1 << script.tests.size()) {
                    continue;
                }
                Set<Integer> codes = new HashSet<>();
                for (int e = 0; e < script.excuses.size(); e++) {
                    int code = 0;
                    for (int t : members(set)) {
                        code |= script.tests.get(t).contains(e) ? 1 << t : 0;
                    }
                    codes.add(code);
                }
                if (codes.size() == script.excuses.size()) {
                    return what == 0 ? many : set;
                }
            }
        }
        return -2;
    }

    private static int gain(int[] prices, int who, int c, int b) {
        int least = Arrays.stream(prices).min().getAsInt();
        long share = Arrays.stream(prices).filter(p -> p == least).count();
        return prices[who] == least ? (int) (b / share) * (prices[who] - c) : 0;
    }

    int sellers(int n, int m, int c, int b, int i) {
        if (n < 2 || n > 3 || m < 0 || m > 6 || c < 0 || c > 9 || b < 0 || b > 99 || i < NONE) {
            return NONE;
        }
        List<Integer> rows = new ArrayList<>();
        for (int x = 0; x <= m; x++) {
            for (int y = 0; y <= m; y++) {
                for (int z = 0; z <= (n == 3 ? m : 0); z++) {
                    int[] prices = n == 3 ? new int[] {x, y, z} : new int[] {x, y};
                    boolean rests = true;
                    for (int who = 0; who < n; who++) {
                        for (int other = 0; other <= m; other++) {
                            int[] others = prices.clone();
                            others[who] = other;
                            rests &= gain(others, who, c, b) <= gain(prices, who, c, b);
                        }
                    }
                    if (rests) {
                        rows.add(n == 3 ? 49 * x + 7 * y + z : 7 * x + y);
                    }
                }
            }
        }
        return i == NONE ? rows.size() : i >= rows.size() ? NONE : rows.get(i);
    }

    int calm(int excuse, int man, int p) {
        if (!excuse(excuse) || !man(man) || p < 0 || p > 100) {
            return NONE;
        }
        World w = world.twin();
        while (w.day <= 99) {
            if (passes(w, script.seed, excuse, man, 1) >= p) {
                return w.day;
            }
            night(w);
        }
        return -2;
    }

    // ---- what is SAID and KNOWN

    int say(int kind, int least, int most, int day) {
        if (kind < 0 || kind > 9 || least < 0 || least > 120 || most < 0 || most > 120 || most < least || day < 0
            || day > 9999 || said.size() >= 20) {
            return NONE;
        }
        said.add(new int[] {kind, least, most, day});
        return said.size() - 1;
    }

    int span(int kind, int k, int what) {
        if (kind < 0 || kind > 9 || k < 0 || k > said.size() || what < 0 || what > 1) {
            return NONE;
        }
        List<Integer> ages = new ArrayList<>();
        for (int age = 0; age <= 120; age++) {
            boolean left = true;
            for (int[] s : said.subList(0, k)) {
                int then = age + s[3] / 365;
                left &= s[0] != kind || then >= s[1] && then <= s[2];
            }
            if (left) {
                ages.add(age);
            }
        }
        return ages.isEmpty() ? -2 : ages.get(what == 0 ? 0 : ages.size() - 1);
    }

    int know(int excuse, int man, int often) {
        if (!excuse(excuse) || !man(man) || often < 0 || often > 9 || known.size() >= 20) {
            return NONE;
        }
        known.add(new int[] {excuse, man, often});
        return known.size() - 1;
    }

    /** DUTY by DUTY: how many ways lead to each row of numbers of tellings. */
    int fits(int man, int k) {
        if (!man(man) || k < 0 || k > known.size()) {
            return NONE;
        }
        Map<List<Integer>, Integer> ways = new HashMap<>();
        ways.put(new ArrayList<>(java.util.Collections.nCopies(script.excuses.size(), 0)), 1);
        for (Duty d : script.duties) {
            if (d.man() != man) {
                continue;
            }
            Map<List<Integer>, Integer> next = new HashMap<>();
            for (Map.Entry<List<Integer>, Integer> way : ways.entrySet()) {
                next.merge(way.getKey(), way.getValue(), Integer::sum);
                for (int e = 0; e < script.excuses.size(); e++) {
                    List<Integer> more = new ArrayList<>(way.getKey());
                    more.set(e, more.get(e) + 1);
                    next.merge(more, way.getValue(), Integer::sum);
                }
            }
            ways = next;
        }
        int sum = 0;
        for (Map.Entry<List<Integer>, Integer> way : ways.entrySet()) {
            boolean so = true;
            for (int[] one : known.subList(0, k)) {
                so &= one[1] != man || way.getKey().get(one[0]) == one[2];
            }
            sum += so ? way.getValue() : 0;
        }
        return sum;
    }

    int forget() {
        int both = said.size() + known.size();
        said.clear();
        known.clear();
        return both;
    }

    boolean hold(int slot) {
        if (slot < 0 || slot > 2) {
            return false;
        }
        slots[slot] = world.twin();
        return true;
    }

    boolean restore(int slot) {
        if (slot < 0 || slot > 2 || slots[slot] == null) {
            return false;
        }
        world = slots[slot].twin();
        past.clear();
        return true;
    }

    int count(int what) {
        int has = 0;
        for (int e : world.has) {
            has |= 1 << e;
        }
        int held = 0;
        for (World slot : slots) {
            held += slot != null ? 1 : 0;
        }
        int[] all = {script.men.size(), script.excuses.size(), script.duties.size(), script.tests.size(), world.day,
            world.coins, world.hours, has, world.ended(1), world.ended(2), world.ended(3), tape.length(), past.size(),
            said.size(), known.size(), held};
        return what < 0 || what >= all.length ? NONE : all[what];
    }
}
