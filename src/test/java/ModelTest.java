import java.nio.charset.StandardCharsets;
import java.util.ArrayList;
import java.util.Arrays;
import java.util.List;
import java.util.Random;

/** Runs of calls, made by the numbers of a Random, on the program and on the model: each answer is compared. */
public final class ModelTest {
    private static final int[] ODD = {-1, -2, 100, 1000, Integer.MAX_VALUE, Integer.MIN_VALUE, 31, 32, 64, -7};
    private final Random r;
    private final Texts texts;
    private final List<String> calls = new ArrayList<>();
    private ExcuseMarket x = new ExcuseMarket();
    private Model y = new Model();

    private ModelTest(long seed) {
        r = new Random(seed);
        texts = new Texts(r);
    }

    public static void main(String[] args) {
        int runs = args.length > 0 ? Integer.parseInt(args[0]) : 1500;
        int first = args.length > 1 ? Integer.parseInt(args[1]) : 0;
        for (int i = first; i < first + runs; i++) {
            if (!new ModelTest(i).run()) {
                System.out.println("run " + i + " differs");
                System.exit(1);
            }
        }
        Check.due("runs", runs, runs);
        Check.end("ModelTest");
    }

    private boolean run() {
        int most = r.nextInt(10) == 0 ? 512 : 200;
        while (calls.size() < most) {
            if (calls.size() < 3 ? r.nextInt(3) != 0 : r.nextInt(60) == 0) {
                if (!read(r.nextInt(calls.size() < 3 ? 8 : 2) == 0 ? texts.spoilt() : texts.text())) {
                    return false;
                }
            } else if (!call()) {
                return false;
            }
        }
        return true;
    }

    private boolean read(String text) {
        if (text.length() > 2000 || text.length() / 20 > 400 - calls.size()) {
            return true;
        }
        byte[] bytes = text.getBytes(StandardCharsets.ISO_8859_1);
        byte[] all = Arrays.copyOf(bytes, bytes.length + (20 - bytes.length % 20) % 20);
        for (int i = 0; i < all.length; i += 20) {
            int[] w = new int[5];
            for (int j = 0; j < 20; j++) {
                w[j / 4] = w[j / 4] << 8 | all[i + j] & 255;
            }
            if (!same("feed " + Arrays.toString(w), x.feed(w[0], w[1], w[2], w[3], w[4]), y.feed(w[0], w[1], w[2], w[3], w[4]))) {
                return false;
            }
        }
        int over = all.length - bytes.length;
        return same("back " + over, x.back(over), y.back(over)) && same("read <<" + text + ">>", x.read(), y.read())
            && same("place", x.place(), y.place()) && (r.nextInt(3) == 0 || outset());
    }

    /** Much is bought and planned, so that days have something to tell. */
    private boolean outset() {
        for (int excuse = 0; excuse < x.count(1); excuse++) {
            if (r.nextInt(4) != 0 && !same("buy " + excuse, x.buy(excuse), y.buy(excuse))) {
                return false;
            }
        }
        for (int duty = 0; duty < x.count(2); duty++) {
            int excuse = owned();
            if (!same("plan " + duty + " " + excuse, x.plan(duty, excuse), y.plan(duty, excuse))) {
                return false;
            }
        }
        return true;
    }

    private int in(int most) {
        return r.nextInt(40) == 0 ? ODD[r.nextInt(ODD.length)] : r.nextInt(most + 1);
    }

    private int man() {
        return in(r.nextInt(9) == 0 ? 5 : Math.max(0, x.count(0) - 1));
    }

    private int excuse() {
        return in(r.nextInt(9) == 0 ? 7 : Math.max(0, x.count(1) - 1));
    }

    /** Mostly an EXCUSE that one has. */
    private int owned() {
        int excuse = excuse();
        for (int i = 0; i < 9 && x.excuse(excuse, 4) != 1; i++) {
            excuse = r.nextInt(7);
        }
        return excuse;
    }

    private int duty() {
        return in(r.nextInt(9) == 0 ? 9 : Math.max(0, x.count(2) - 1));
    }

    private int set() {
        int set = 1 << r.nextInt(Math.max(1, x.count(2))) | 1 << r.nextInt(Math.max(1, x.count(2)));
        return r.nextInt(9) == 0 ? in(512) : r.nextBoolean() ? set : set | 1 << r.nextInt(Math.max(1, x.count(2)));
    }

    private int percent() {
        return r.nextInt(5) == 0 ? 0 : in(r.nextInt(9) == 0 ? 101 : 60);
    }

    private boolean same(String call, boolean got, boolean want) {
        return same(call, got ? 1 : 0, want ? 1 : 0);
    }

    private boolean same(String call, long got, long want) {
        calls.add(call + " -> " + want);
        if (got != want) {
            calls.forEach(System.out::println);
            System.out.println("but the program answered " + got);
        }
        return got == want;
    }

    private boolean call() {
        int a;
        int b;
        int c;
        switch (r.nextInt(44)) {
            case 0: a = man(); b = in(5); return same("man " + a + " " + b, x.man(a, b), y.man(a, b));
            case 1: a = excuse(); b = in(7); return same("excuse " + a + " " + b, x.excuse(a, b), y.excuse(a, b));
            case 2: a = duty(); b = in(5); return same("duty " + a + " " + b, x.duty(a, b), y.duty(a, b));
            case 3: a = excuse(); b = man(); return same("told " + a + " " + b, x.told(a, b, false), y.told(a, b, false));
            case 4: a = excuse(); b = man(); return same("told last " + a + " " + b, x.told(a, b, true), y.told(a, b, true));
            case 5: a = in(1000); return same("rains " + a, x.rains(a), y.rains(a));
            case 6: case 7: case 8: a = excuse(); return same("buy " + a, x.buy(a), y.buy(a));
            case 9: a = excuse(); return same("sell " + a, x.sell(a), y.sell(a));
            case 10: case 11: case 12: case 13: case 14:
                a = duty(); b = r.nextInt(9) == 0 ? -1 : r.nextInt(9) == 0 ? excuse() : owned(); return same("plan " + a + " " + b, x.plan(a, b), y.plan(a, b));
            case 15: case 16: a = in(1); return same("days " + a, x.days(a), y.days(a));
            case 17: a = in(61); a = r.nextInt(9) == 0 ? a : 1; return same("days " + a, x.days(a), y.days(a));
            case 18: return same("undo", x.undo(), y.undo());
            case 19: case 20: a = excuse(); b = duty(); return same("pass " + a + " " + b, x.pass(a, b), y.pass(a, b));
            case 21: case 22: a = in(31); b = in(4); return same("planned " + a + " " + b, x.planned(a, b), y.planned(a, b));
            case 23: a = man(); b = in(31); return same("trust " + a + " " + b, x.trust(a, b), y.trust(a, b));
            case 24: a = in(31); b = in(21); return same("year " + a + " " + b, x.year(a, b), y.year(a, b));
            case 25: case 26: a = set(); b = percent(); return same("cheapest " + a + " " + b, x.cheapest(a, b), y.cheapest(a, b));
            case 27: case 28: a = set(); b = percent(); c = in(3);
                return same("cheapestAt " + a + " " + b + " " + c, x.cheapestAt(a, b, c), y.cheapestAt(a, b, c));
            case 29: a = r.nextInt(2) - 1; a = r.nextBoolean() ? a : in(3); return same("two " + a, x.two(a), y.two(a));
            case 30: a = man(); b = in(11) - 1; return same("rumour " + a + " " + b, x.rumour(a, b), y.rumour(a, b));
            case 31: a = in(2); return same("apart " + a, x.apart(a), y.apart(a));
            case 32: return sellers();
            case 33: case 34: a = excuse(); b = man(); c = percent();
                return same("calm " + a + " " + b + " " + c, x.calm(a, b, c), y.calm(a, b, c));
            case 35: return say();
            case 36: a = in(3); b = in(x.count(13)); c = in(2);
                return same("span " + a + " " + b + " " + c, x.span(a, b, c), y.span(a, b, c));
            case 37: a = excuse(); b = man(); c = in(r.nextInt(9) == 0 ? 10 : 2);
                return same("know " + a + " " + b + " " + c, x.know(a, b, c), y.know(a, b, c));
            case 38: a = man(); b = in(Math.min(3, x.count(14))); return same("fits " + a + " " + b, x.fits(a, b), y.fits(a, b));
            case 39: return r.nextInt(5) != 0 || same("forget", x.forget(), y.forget());
            case 40: return slots();
            case 41: case 42: a = r.nextInt(2) - 1; return same("two " + a, x.two(a), y.two(a));
            default: a = in(16); return same("count " + a, x.count(a), y.count(a));
        }
    }

    private boolean sellers() {
        int n = in(1) + 2;
        int m = in(6);
        int c = in(r.nextInt(3) == 0 ? 9 : 3);
        int b = in(r.nextInt(3) == 0 ? 99 : 6);
        int i = in(5) - 1;
        return same("sellers " + n + " " + m + " " + c + " " + b + " " + i, x.sellers(n, m, c, b, i), y.sellers(n, m, c, b, i));
    }

    private boolean say() {
        int kind = in(3);
        int least = in(r.nextInt(5) == 0 ? 121 : 60);
        int most = in(121);
        int day = in(r.nextInt(9) == 0 ? 10000 : 3000);
        return same("say " + kind + " " + least + " " + most + " " + day, x.say(kind, least, most, day), y.say(kind, least, most, day));
    }

    private boolean slots() {
        int slot = in(3);
        return r.nextBoolean() ? same("hold " + slot, x.hold(slot), y.hold(slot)) : same("restore " + slot, x.restore(slot), y.restore(slot));
    }
}
