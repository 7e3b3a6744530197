import java.util.ArrayList;
import java.util.List;
import java.util.Random;

/** Makes texts by the numbers of a Random: most of them sound, some spoilt. */
final class Texts {
    private static final String[] VARS = "day strong wear trust kind ago wet hours heard".split(" ");
    private static final String[] ALL = ("man excuse once duty knows test passes wears rain coins seed if then else day strong wear trust "
        + "kind ago wet hours heard ; = + - * / < ( ) 0 7 100 1000 12345 a zz abcdefgh abcdefghi # . A").split(" ");
    private final Random r;

    Texts(Random r) {
        this.r = r;
    }

    String text() {
        List<String> tells = new ArrayList<>();
        boolean small = r.nextInt(4) == 0;
        int men = small ? r.nextInt(3) : 1 + r.nextInt(5);
        int excuses = small ? r.nextInt(3) : 1 + r.nextInt(7);
        int duties = men == 0 ? 0 : small ? r.nextInt(4) : 1 + r.nextInt(9);
        int lastDay = r.nextInt(r.nextInt(5) == 0 ? 100 : 8);
        for (int i = 0; i < men; i++) {
            tells.add("man m" + letter(i) + " " + r.nextInt(100) + " " + r.nextInt(10));
        }
        for (int i = 0; i < excuses; i++) {
            int good = r.nextInt(3) == 0 ? r.nextInt(lastDay + 1) : 99;
            tells.add("excuse e" + letter(i) + " " + r.nextInt(r.nextBoolean() ? 100 : 20) + " " + good + " "
                + r.nextInt(r.nextBoolean() ? 10 : 3) + " " + r.nextInt(100) + (r.nextInt(3) == 0 ? " once" : ""));
        }
        for (int i = 0; i < duties; i++) {
            tells.add("duty d" + letter(i) + " m" + letter(r.nextInt(men)) + " " + r.nextInt(lastDay + 1) + " " + (1 + r.nextInt(9)));
        }
        for (int i = men > 1 ? r.nextInt(9) : 0; i > 0; i--) {
            int one = r.nextInt(men);
            tells.add("knows m" + letter(one) + " m" + letter((one + 1 + r.nextInt(men - 1)) % men));
        }
        for (int i = r.nextInt(7); i > 0; i--) {
            StringBuilder test = new StringBuilder("test t" + letter(i));
            for (int e = 0; e < excuses; e++) {
                test.append(r.nextBoolean() ? " e" + letter(e) : "");
            }
            tells.add(test.toString());
        }
        if (r.nextInt(6) != 0) {
            tells.add("passes = " + law());
        }
        if (r.nextInt(4) != 0) {
            tells.add("wears = " + law());
        }
        if (r.nextInt(5) == 0) {
            tells.add("wears = " + r.nextInt(20));
        }
        if (r.nextBoolean()) {
            tells.add("rain " + r.nextInt(101));
        }
        if (r.nextInt(4) != 0) {
            tells.add("coins " + r.nextInt(r.nextInt(3) != 0 ? 1000 : 60));
        }
        if (r.nextInt(4) != 0) {
            tells.add("seed " + r.nextInt(10000));
        }
        return joined(tells);
    }

    private String joined(List<String> tells) {
        if (r.nextInt(8) == 0 && !tells.isEmpty()) {
            java.util.Collections.swap(tells, r.nextInt(tells.size()), 0);
        }
        StringBuilder text = new StringBuilder(r.nextInt(9) == 0 ? "\n " : "");
        for (String tell : tells) {
            text.append(tell).append(r.nextInt(9) == 0 ? " ;" : ";").append(r.nextInt(9) == 0 ? "\r\n\t" : "");
        }
        String all = text.toString();
        return r.nextInt(9) == 0 ? all.replaceAll("([a-z]) ([0-9])", "$1$2") : all;
    }

    private static String letter(int i) {
        return String.valueOf((char) ('a' + i));
    }

    private String law() {
        StringBuilder law = new StringBuilder();
        for (int i = r.nextInt(3) == 0 ? r.nextInt(5) : 0; i > 0; i--) {
            law.append("if ").append(sum(2)).append(" < ").append(sum(2)).append(" then ").append(sum(2)).append(" else ");
        }
        if (r.nextBoolean()) {
            return law + "strong + trust / " + (1 + r.nextInt(3)) + " - wear * " + r.nextInt(30) + " - heard * " + r.nextInt(40)
                + " + ago / " + (1 + r.nextInt(9)) + " - wet * " + r.nextInt(50);
        }
        return law.append(sum(r.nextInt(4))).toString();
    }

    private String sum(int depth) {
        StringBuilder all = new StringBuilder(product(depth));
        for (int i = r.nextInt(3); i > 0; i--) {
            all.append(r.nextBoolean() ? " + " : "-").append(product(depth));
        }
        return all.toString();
    }

    private String product(int depth) {
        StringBuilder all = new StringBuilder(unit(depth));
        for (int i = r.nextInt(3) == 0 ? 1 + r.nextInt(2) : 0; i > 0; i--) {
            all.append(r.nextBoolean() ? "*" : " / ").append(unit(depth));
        }
        return all.toString();
    }

    private String unit(int depth) {
        if (depth > 0 && r.nextInt(4) == 0) {
            return "(" + sum(depth - 1) + ")";
        }
        if (r.nextInt(3) == 0) {
            return String.valueOf(r.nextInt(r.nextInt(4) == 0 ? 10000 : 60));
        }
        return VARS[r.nextInt(VARS.length)];
    }

    /** A text of 2,000 bytes at most, spoilt at a few places. */
    String spoilt() {
        StringBuilder text = new StringBuilder(text());
        switch (r.nextInt(12)) {
            case 0 -> text.append("man x 1 1;".repeat(r.nextInt(7)));
            case 1 -> text.append("passes = " + "(".repeat(5 + r.nextInt(4)) + "1" + ")".repeat(5 + r.nextInt(4)) + ";");
            case 2 -> text.append("wears = " + "if 1 < 2 then 3 else ".repeat(3 + r.nextInt(4)) + "4;");
            case 3 -> text.append("rain 1;".repeat(r.nextInt(150)));
            case 4 -> text.append("knows ma mb;".repeat(r.nextInt(11)));
            case 5 -> text.append("excuse x" + (char) ('a' + r.nextInt(26)) + " 1 1 1 1;").append("duty y ma 1 1;".repeat(r.nextInt(11)));
            default -> { }
        }
        for (int i = r.nextInt(3); i > 0; i--) {
            int at = r.nextInt(text.length() + 1);
            String token = ALL[r.nextInt(ALL.length)];
            switch (r.nextInt(7)) {
                case 0 -> text.insert(at, " " + token + " ");
                case 5 -> longerInt(text, at);
                case 1 -> text.insert(at, token);
                case 2 -> text.setLength(at);
                case 3 -> text.delete(at, Math.min(text.length(), at + 1 + r.nextInt(6)));
                case 4 -> text.insert(at, (char) r.nextInt(256));
                default -> replaceToken(text, at, token);
            }
        }
        if (text.length() > 2000) {
            text.setLength(2000);
        }
        return text.toString();
    }

    /** A digit more may be one too much for the number, or for an INT. */
    private static void longerInt(StringBuilder text, int at) {
        for (int i = at; i < text.length(); i++) {
            if (Character.isDigit(text.charAt(i))) {
                text.insert(i, (char) ('0' + i % 10));
                return;
            }
        }
    }

    private static void replaceToken(StringBuilder text, int at, String token) {
        int from = at;
        while (from > 0 && text.charAt(from - 1) > ' ') {
            from--;
        }
        int to = at;
        while (to < text.length() && text.charAt(to) > ' ' && text.charAt(to) != ';') {
            to++;
        }
        if (from < to) {
            text.replace(from, to, token);
        }
    }
}
