import java.lang.reflect.Field;
import java.lang.reflect.Member;
import java.lang.reflect.Method;
import java.lang.reflect.Modifier;
import java.nio.file.Files;
import java.nio.file.Path;
import java.util.ArrayList;
import java.util.Arrays;
import java.util.List;
import java.util.Set;
import java.util.TreeSet;
import java.util.regex.Matcher;
import java.util.regex.Pattern;

/** Those of LANGUAGE.md's rules that can be looked up in the source and in the classes. */
public final class LanguageTest {
    private static final Set<String> FACE = new TreeSet<>(Arrays.asList(("feed back read place man excuse duty told rains buy sell plan days "
        + "undo pass planned trust year cheapest cheapestAt two rumour apart sellers calm say span know fits forget hold restore count")
        .split(" ")));

    public static void main(String[] args) throws Exception {
        String source = Files.readString(Path.of("src/main/java/ExcuseMarket.java"));
        face();
        for (Class<?> inside : ExcuseMarket.class.getDeclaredClasses()) {
            inside(inside);
        }
        Check.due("classes", 1 + ExcuseMarket.class.getDeclaredClasses().length <= 12, true);
        words(source);
        methods(source);
        library(source);
        Check.end("LanguageTest");
    }

    private static List<Member> members(Class<?> type) {
        List<Member> all = new ArrayList<>(Arrays.asList(type.getDeclaredMethods()));
        all.addAll(Arrays.asList(type.getDeclaredFields()));
        all.addAll(Arrays.asList(type.getDeclaredConstructors()));
        return all;
    }

    private static void face() {
        Set<String> open = new TreeSet<>();
        for (Member member : members(ExcuseMarket.class)) {
            if (!Modifier.isPrivate(member.getModifiers())) {
                Check.due("public " + member, Modifier.isPublic(member.getModifiers()), true);
                open.add(member.getName());
            } else if (member instanceof Method) {
                Check.due("private " + member, FACE.contains(member.getName()), false);
            }
        }
        Set<String> due = new TreeSet<>(FACE);
        due.add("NONE");
        due.add("ExcuseMarket");
        Check.due("face " + open, open.equals(due), true);
        fields(ExcuseMarket.class);
    }

    private static void inside(Class<?> type) {
        Check.due(type + " is static", Modifier.isStatic(type.getModifiers()), true);
        Check.due(type + " holds no classes", type.getDeclaredClasses().length, 0);
        for (Method method : type.getDeclaredMethods()) {
            Check.due("name of " + method, FACE.contains(method.getName()), false);
        }
        fields(type);
    }

    private static void fields(Class<?> type) {
        int own = 0;
        for (Field field : type.getDeclaredFields()) {
            boolean isStatic = Modifier.isStatic(field.getModifiers());
            own += isStatic ? 0 : 1;
            Check.due("final " + field, !isStatic || Modifier.isFinal(field.getModifiers()), true);
        }
        Check.due("fields of " + type, own <= 20, true);
    }

    private static void words(String source) {
        String code = source.replaceAll("(?s)/\\*.*?\\*/", "").replaceAll("//[^\n]*", "").replaceAll("\"[^\"]*\"", "\"\"");
        String[] out = {"\\bthrow\\b", "\\btry\\b", "\\bcatch\\b", "\\bsynchronized\\b", "\\bassert\\b", "->", "::", "\\bimport\\b",
            "\\bpackage\\b", "\\bvar\\b", "\\binstanceof\\b", "\\bequals\\b", "\\bhashCode\\b", "\\btoString\\b", "\\bObject\\b",
            "Exact\\b", "\\bdouble\\b", "\\bfloat\\b", "\\+ \"", "\" \\+", "while \\(true\\)", "for \\(;;\\)", "\\bprotected\\b"};
        for (String word : out) {
            Check.due("found " + word, Pattern.compile(word).matcher(code).find(), false);
        }
    }

    private static void methods(String source) {
        Pattern head = Pattern.compile("(?m)^( {4}| {8})(?:[a-z]+ )*[A-Za-z\\[\\]]+(?: [A-Za-z]+)?\\(([^)]*)\\) \\{$");
        Matcher m = head.matcher(source);
        int found = 0;
        while (m.find()) {
            found++;
            int end = source.indexOf("\n" + m.group(1) + "}\n", m.end());
            long lines = source.substring(m.start(), end).lines().count();
            Check.due("lines of " + m.group().trim(), lines <= 60, true);
            Check.due("parameters of " + m.group().trim(), m.group(2).split(",").length <= 7, true);
        }
        Check.due("methods found", found > 100, true);
    }

    private static void library(String source) {
        Matcher m = Pattern.compile("\\b(Math|Integer|Long|System|Arrays|String|StringBuilder)\\.(\\w+)").matcher(source);
        Set<String> used = new TreeSet<>();
        while (m.find()) {
            used.add(m.group());
        }
        used.removeAll(Set.of("Math.min", "Math.max", "Integer.bitCount"));
        Check.due("library " + used, used.isEmpty(), true);
    }
}
