import java.util.ArrayList;
import java.util.List;
import java.util.function.Supplier;
import java.util.function.ToIntFunction;

/**
 * Two objects are made alike; one of them is called once more, and must then be as the other one still is. What is made
 * has few things and little that can be undone, for an object is good for 512 calls.
 */
final class Twins {
    private Twins() {
    }

    /** A call answers what is due and leaves all as it was. */
    static void leaves(String what, Supplier<ExcuseMarket> made, ToIntFunction<ExcuseMarket> call, int due) {
        ExcuseMarket called = made.get();
        Check.due(what, call.applyAsInt(called), due);
        alike(what + " leaves all as it was", called, made.get());
    }

    static void alike(String what, ExcuseMarket one, ExcuseMarket other) {
        List<Integer> left = look(one);
        List<Integer> right = look(other);
        for (int i = 0; i < Math.min(left.size(), right.size()); i++) {
            if (left.get(i).intValue() != right.get(i)) {
                Check.due(what + ", answer " + i, left.get(i), right.get(i));
                return;
            }
        }
        Check.due(what + ", answers", left.size(), right.size());
    }

    /** Nearly all that an object tells; it is undone and read to its end by that. */
    private static List<Integer> look(ExcuseMarket x) {
        List<Integer> all = new ArrayList<>();
        for (int what = 0; what < 16; what++) {
            all.add(x.count(what));
        }
        all.add(x.place());
        things(x, all);
        lore(x, all);
        while (x.undo()) {
            goings(x, all);
        }
        for (int slot = 0; slot < 3; slot++) {
            all.add(x.restore(slot) ? 1 : 0);
            goings(x, all);
        }
        all.add(x.read());
        all.add(x.place());
        goings(x, all);
        return all;
    }

    private static void things(ExcuseMarket x, List<Integer> all) {
        int men = all.get(0);
        int excuses = all.get(1);
        int duties = all.get(2);
        for (int man = 0; man < men; man++) {
            for (int what = 0; what < 5; what++) {
                all.add(x.man(man, what));
            }
            all.add(x.fits(man, all.get(14)));
        }
        for (int excuse = 0; excuse < excuses; excuse++) {
            for (int what = 0; what < 7; what++) {
                all.add(x.excuse(excuse, what));
            }
            for (int man = 0; man < men; man++) {
                all.add(x.told(excuse, man, true));
            }
        }
        for (int duty = 0; duty < duties; duty++) {
            for (int what = 0; what < 5; what++) {
                all.add(x.duty(duty, what));
            }
            all.add(x.pass(0, duty));
        }
    }

    private static void lore(ExcuseMarket x, List<Integer> all) {
        for (int kind = 0; kind < 4; kind++) {
            all.add(x.span(kind, all.get(13), 0));
            all.add(x.span(kind, all.get(13), 1));
        }
        all.add(x.two(-1));
        all.add(x.rumour(0, 1));
        all.add(x.apart(1));
        all.add(x.rains(0) + 2 * x.rains(1) + 4 * x.rains(2));
        all.add(x.trust(0, 5));
        all.add(x.year(9, 2));
    }

    private static void goings(ExcuseMarket x, List<Integer> all) {
        for (int what = 4; what < 11; what++) {
            all.add(x.count(what));
        }
        int duties = x.count(2);
        for (int duty = 0; duty < duties; duty++) {
            all.add(x.duty(duty, 3));
        }
        int men = x.count(0);
        for (int man = 0; man < men; man++) {
            all.add(x.man(man, 0));
        }
    }
}
