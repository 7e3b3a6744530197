import java.util.function.ToIntFunction;

/** Promises 16 to 34: what would be, what is SAID and KNOWN, SLOTS and counts. */
final class AskSentences {
    private static final int[] OUTSIDE = {-1, -2, Integer.MIN_VALUE, Integer.MAX_VALUE};

    private AskSentences() {
    }

    static void all() {
        refused();
        pass();
        planned();
        trust();
        year();
        cheapest();
        cheapestAt();
        two();
        rumour();
        apart();
        sellers();
        calm();
        say();
        span();
        know();
        fits();
        forget();
        hold();
        restore();
        restoreRefused();
        count();
    }

    private static int bit(boolean b) {
        return b ? 1 : 0;
    }

    private static void none(String what, ToIntFunction<Integer> call, int... wrong) {
        for (int n : wrong) {
            Check.due(what + " " + n, call.applyAsInt(n), -1);
        }
        for (int n : OUTSIDE) {
            Check.due(what + " " + n, call.applyAsInt(n), -1);
        }
    }

    private static void refused() {
        Doc.term("What would be (nothing happens).");
        CallSentences.refused("pass", z -> z.pass(3, 0), -1);
        CallSentences.refused("planned", z -> z.planned(31, 0), -1);
        CallSentences.refused("trust", z -> z.trust(0, 31), -1);
        CallSentences.refused("year", z -> z.year(30, 21), -1);
        CallSentences.refused("cheapest", z -> z.cheapest(15, 0), -1);
        CallSentences.refused("cheapest", z -> z.cheapest(1, 0), -2);
        CallSentences.refused("cheapestAt", z -> z.cheapestAt(4, 0, 1), -1);
        CallSentences.refused("cheapestAt", z -> z.cheapestAt(1, 0, 0), -2);
        CallSentences.refused("two", z -> z.two(-2), -1);
        CallSentences.refused("rumour", z -> z.rumour(0, 10), -1);
        CallSentences.refused("apart", z -> z.apart(2), -1);
        CallSentences.refused("sellers", z -> z.sellers(4, 0, 0, 0, -1), -1);
        CallSentences.refused("calm", z -> z.calm(0, 0, 101), -1);
        CallSentences.refused("span", z -> z.span(2, 3, 0), -1);
        CallSentences.refused("fits", z -> z.fits(0, 2), -1);
        CallSentences.refused("count", z -> z.count(16), -1);
    }

    private static void pass() {
        Doc.promise(16, "PASSES of an EXCUSE for a DUTY, if it were told now, whatever its day;");
        ExcuseMarket x = Check.reader("man a 50 2;excuse e 1 1 3 7;duty d a 9 4;duty f a 0 5;passes = trust + hours + day;");
        Check.due("of a day to come", x.pass(0, 0), 54);
        Check.due("of today", x.pass(0, 1), 55);
        x.days(1);
        Check.due("the next day", x.pass(0, 0), 57);
        Check.due("of one that is over", x.pass(0, 1), 58);
        x.days(1);
        Check.due("now is beyond GOOD", x.pass(0, 0), 0);
        Check.due("GOOD now, not on its day", Check.reader("man a 5 2;excuse e 1 1 3 7;duty d a 9 4;").pass(0, 0), 50);
        Doc.promise(16, "NONE: no such ones.");
        none("excuse", n -> x.pass(n, 0), 1, 32);
        none("duty", n -> x.pass(0, n), 2, 32);
    }

    private static void planned() {
        Doc.promise(17, "BY THE PLAN: what 0 FREE, 1 CAUGHT, 2 DONE, 3 HOURS;");
        ExcuseMarket x = AheadSentences.owner("man a 50 2;excuse e 1 99 3 99;excuse x 1 99 3 0;duty d a 0 1;duty f a 0 2;"
            + "duty g a 0 3;duty h a 29 4;"
            + "duty i a 30 5;passes = strong * 2;", 0, 1);
        x.plan(0, 0);
        x.plan(1, 1);
        int[][] due = {{0, 0, 0, 0, 0}, {1, 1, 1, 1, 5}, {29, 1, 1, 1, 5}, {30, 1, 1, 2, 9}};
        for (int[] row : due) {
            for (int what = 0; what < 4; what++) {
                Check.due("planned " + row[0] + " " + what, x.planned(row[0], what), row[1 + what]);
            }
        }
        Doc.promise(17, "NONE: no such ones.");
        for (int what = 0; what < 4; what++) {
            int w = what;
            none("in n, " + what, n -> x.planned(n, w), 31);
        }
        none("what", n -> x.planned(1, n), 4);
        none("what, in none", n -> x.planned(0, n), 4);
    }

    private static void trust() {
        Doc.promise(18, "BY THE PLAN: TRUST of a MAN;");
        ExcuseMarket x = AheadSentences.owner("man a 50 2;man b 30 1;excuse e 1 99 3 99;duty d a 1 1;passes = 100;wears = 9;", 0);
        x.plan(0, 0);
        int[] due = {50, 52, 45, 47};
        for (int n = 0; n < due.length; n++) {
            Check.due("a in " + n, x.trust(0, n), due[n]);
            Check.due("b in " + n, x.trust(1, n), 30 + n);
        }
        Check.due("b in 30", x.trust(1, 30), 60);
        Doc.promise(18, "NONE: no such ones.");
        none("man", n -> x.trust(n, 0), 2, 32);
        none("in n", n -> x.trust(0, n), 31);
    }

    private static void year() {
        Doc.promise(19, "YEAR;");
        ExcuseMarket x = AheadSentences.owner("man a 50 2;excuse e 1 99 3 99;duty d a 0 1;duty f a 29 1;duty g a 30 1;passes = 100;", 0);
        for (int duty = 0; duty < 3; duty++) {
            x.plan(duty, 0);
        }
        int[][] due = {{0, 1, 0}, {0, 20, 0}, {1, 1, 1}, {1, 20, 20}, {29, 1, 1}, {30, 1, 2}, {30, 20, 40}};
        for (int[] row : due) {
            Check.due("in " + row[0] + " by " + row[1], x.year(row[0], row[1]), row[2]);
        }
        Doc.promise(19, "NONE: no such ones.");
        none("in n", n -> x.year(n, 1), 31);
        none("by s", n -> x.year(1, n), 0, 21);
    }

    private static ExcuseMarket shop() {
        return AheadSentences.owner("man a 50 0;excuse e 40 99 1 90;excuse f 9 99 2 60;excuse g 3 99 3 30;duty da a 4 1;"
            + "duty db a 1 1;duty dc a 2 1;"
            + "duty dd a 9 1;passes = strong;wears = 0;");
    }

    private static void cheapest() {
        Doc.promise(20, "BUY (a set of 1 to 3 DUTIES): the COINS;");
        ExcuseMarket x = shop();
        Check.due("one", x.cheapest(1, 60), 9);
        Check.due("two", x.cheapest(12, 60), 9);
        Check.due("three", x.cheapest(11, 61), 40);
        Check.due("p 0", x.cheapest(8, 0), 3);
        x.buy(0);
        Check.due("none are needed", x.cheapest(11, 61), 0);
        Doc.promise(20, "-2: by none, one is not yet to come;");
        ExcuseMarket y = shop();
        Check.due("by the dearest", y.cheapest(11, 90), 40);
        Check.due("by none", y.cheapest(11, 91), -2);
        Check.due("by none", y.cheapest(11, 100), -2);
        Check.due("no EXCUSES", Check.reader("man a 1 1;duty d a 0 1;").cheapest(1, 0), -2);
        y.days(1);
        Check.due("today's", y.cheapest(3, 0), 3);
        y.days(1);
        Check.due("yesterday's", y.cheapest(2, 0), -2);
        Check.due("yesterday's and another one", y.cheapest(3, 0), -2);
        Check.due("the others", y.cheapest(13, 0), 3);
        Doc.promise(20, "NONE: no such ones.");
        none("set", n -> y.cheapest(n, 50), 0, 15, 16, 17, 24, 512, 1 << 30, 1 << 31 | 1);
        none("p", n -> y.cheapest(1, n), 101);
        none("p, of one that is over", n -> y.cheapest(2, n), 101);
        Check.due("p 100", y.cheapest(1, 100), -2);
        none("sets of no DUTIES", n -> new ExcuseMarket().cheapest(n, 0), 0, 1, 2);
    }

    private static void cheapestAt() {
        Doc.promise(21, "The EXCUSE for the i-th DUTY of the set (by numbers);");
        ExcuseMarket x = Check.reader("man a 50 0;excuse e 4 99 1 1;excuse f 5 99 1 2;excuse g 7 99 1 3;duty da a 9 3;"
            + "duty db a 5 1;duty dc a 7 9;duty dd a 1 2;"
            + "passes = 10 - (strong - hours) * (strong - hours);");
        int[] due = {2, 0, 1};
        for (int i = 0; i < 3; i++) {
            Check.due("the " + i + "-th", x.cheapestAt(11, 10, i), due[i]);
        }
        Check.due("of two", x.cheapestAt(9, 10, 0) * 10 + x.cheapestAt(9, 10, 1), 21);
        Check.due("of one", x.cheapestAt(8, 10, 0), 1);
        Doc.promise(21, "-2 likewise;");
        for (int i = 0; i < 3; i++) {
            Check.due("by none", x.cheapestAt(7, 10, i), -2);
        }
        Check.due("by none", x.cheapestAt(4, 1, 0), -2);
        x.days(2);
        Check.due("not yet to come", x.cheapestAt(8, 0, 0), -2);
        Check.due("not yet to come", x.cheapestAt(9, 0, 1), -2);
        Check.due("no EXCUSES", Check.reader("man a 1 1;duty d a 0 1;").cheapestAt(1, 0, 0), -2);
        Doc.promise(21, "NONE (looked at first): no such ones, not so many.");
        none("i of three", n -> x.cheapestAt(7, 0, n), 3, 4);
        none("i of one", n -> x.cheapestAt(1, 0, n), 1, 2);
        none("i, by none", n -> x.cheapestAt(4, 1, n), 1, 2);
        none("i of one that is over", n -> x.cheapestAt(8, 0, n), 1, 2);
        none("set", n -> x.cheapestAt(n, 0, 0), 0, 15, 16, 17, 512, 1 << 31 | 1);
        none("p", n -> x.cheapestAt(8, n, 0), 101);
    }

    private static void two() {
        Doc.promise(22, "TWO THINGS: how many pairs (i NONE), else the i-th (10 * the lesser number + the other one, by numbers);");
        ExcuseMarket x = AheadSentences.owner(TextSentences.many("man ? 99 0;", 5) + "knows e d;knows e a;knows c b;knows b a;knows c d;"
            + "excuse x 1 99 1 1;excuse y 1 99 2 1;" + TextSentences.many("duty d? ? 0 1;", 5) + "passes = 100;", 0, 1);
        for (int duty = 0; duty < 5; duty++) {
            x.plan(duty, duty % 2);
        }
        Check.due("none yet", x.two(-1), 0);
        Check.due("none yet", x.two(0), -1);
        x.days(1);
        int[] due = {1, 12, 23, 34};
        Check.due("how many", x.two(-1), 4);
        for (int i = 0; i < due.length; i++) {
            Check.due("the " + i + "-th", x.two(i), due[i]);
        }
        Doc.promise(22, "NONE: not so many, i below NONE.");
        for (int i : new int[] {4, 5, 32, Integer.MAX_VALUE, -2, -3, Integer.MIN_VALUE}) {
            Check.due("i " + i, x.two(i), -1);
        }
    }

    private static void rumour() {
        Doc.promise(23, "RUMOUR: MEN (bits; n NONE: how many rounds);");
        ExcuseMarket x = Check.reader("man a 1 1;man b 1 1;man c 1 1;knows a c;");
        Check.due("in 0", x.rumour(0, 0), 1);
        Check.due("in 1", x.rumour(0, 1), 5);
        Check.due("in 9", x.rumour(0, 9), 5);
        Check.due("rounds", x.rumour(0, -1), 1);
        Check.due("alone", x.rumour(1, 9), 2);
        Check.due("alone", x.rumour(1, -1), 0);
        Doc.promise(23, "NONE: no such ones.");
        none("man", n -> x.rumour(n, 0), 3, 4, 5, 32);
        none("man, rounds", n -> x.rumour(n, -1), 3);
        for (int n : new int[] {10, 11, -2, -3, Integer.MAX_VALUE, Integer.MIN_VALUE}) {
            Check.due("in " + n, x.rumour(0, n), -1);
        }
    }

    private static void apart() {
        Doc.promise(24, "APART: what 0 how many, 1 which (bits);");
        String text = "excuse a 1 1 1 1;excuse b 1 1 1 1;excuse c 1 1 1 1;test p;test q b;";
        ExcuseMarket x = Check.reader(text + "test r a;");
        Check.due("how many", x.apart(0), 2);
        Check.due("which", x.apart(1), 6);
        Doc.promise(24, "-2: by none;");
        Check.due("how many", Check.reader(text).apart(0), -2);
        Check.due("which", Check.reader(text).apart(1), -2);
        Doc.promise(24, "NONE for others.");
        none("what", x::apart, 2, 3);
        none("what, by none", Check.reader(text)::apart, 2);
    }

    private static void sellers() {
        Doc.promise(25,
            "SELLERS (2, 3): RESTS: how many (i NONE), else the i-th (prices, the first one the highest, 7 to the place; least first);");
        ExcuseMarket x = new ExcuseMarket();
        Check.due("of two", x.sellers(2, 6, 0, 0, -1), 49);
        Check.due("of three", x.sellers(3, 6, 0, 0, -1), 343);
        for (int i = 0; i < 49; i++) {
            Check.due("of no buyers, the " + i + "-th of two", x.sellers(2, 6, 0, 0, i), i);
        }
        Check.due("the last of three", x.sellers(3, 6, 0, 0, 342), 342);
        int[] due = {0, 1, 2, 7, 8, 9, 14, 15, 16};
        for (int i = 0; i < due.length; i++) {
            Check.due("up to 2, the " + i + "-th", x.sellers(2, 2, 0, 0, i), due[i]);
        }
        int[] three = {0, 1, 7, 8, 49, 50, 56, 57};
        for (int i = 0; i < three.length; i++) {
            Check.due("of three up to 1, the " + i + "-th", x.sellers(3, 1, 0, 0, i), three[i]);
        }
        Doc.promise(25, "NONE: no such ones, not so many.");
        none("n", n -> x.sellers(n, 1, 1, 1, -1), 0, 1, 4);
        none("m", n -> x.sellers(2, n, 1, 1, -1), 7);
        none("c", n -> x.sellers(2, 1, n, 1, -1), 10);
        none("b", n -> x.sellers(2, 1, 1, n, -1), 100);
        for (int i : new int[] {4, 5, -2, -3, Integer.MAX_VALUE, Integer.MIN_VALUE}) {
            Check.due("i " + i, x.sellers(2, 1, 1, 0, i), -1);
        }
        Check.due("just so many", x.sellers(2, 1, 1, 0, 3), 8);
        Check.due("the greatest of all", x.sellers(3, 6, 9, 99, 0), 342);
        Check.due("the least of all", x.sellers(2, 0, 0, 0, 0), 0);
    }

    private static void calm() {
        Doc.promise(26, "CALM; -2: not;");
        ExcuseMarket x = Check.reader("man a 50 2;man b 10 0;excuse e 1 20 1 10;excuse f 1 99 1 10;passes = trust;");
        Check.due("today", x.calm(0, 0, 50), 0);
        Check.due("later", x.calm(0, 0, 90), 20);
        Check.due("not", x.calm(0, 0, 91), -2);
        Check.due("not", x.calm(1, 1, 100), -2);
        Doc.promise(26, "NONE: no such ones.");
        none("excuse", n -> x.calm(n, 0, 0), 2, 32);
        none("man", n -> x.calm(0, n, 0), 2, 32);
        none("p", n -> x.calm(0, 0, n), 101, 102);
    }

    private static void say() {
        Doc.promise(27, "SAID: its number;");
        ExcuseMarket x = new ExcuseMarket();
        int[][] right = {{0, 0, 0, 0}, {9, 120, 120, 9999}, {5, 0, 120, 1}, {5, 7, 7, 9998}, {5, 7, 8, 365}};
        for (int i = 0; i < right.length; i++) {
            Check.due("say", x.say(right[i][0], right[i][1], right[i][2], right[i][3]), i);
        }
        Check.due("SAID", x.count(13), right.length);
        Doc.promise(27, "NONE, and nothing happens: 20 are there, no such ones (kind 0 .. 9, ages 0 .. 120, day 0 .. 9999; "
            + "the first age no more than the other one).");
        int[][] wrong = {{-1, 1, 2, 3}, {10, 1, 2, 3}, {1, -1, 2, 3}, {1, 3, 2, 3}, {1, 1, 121, 3}, {1, 121, 121, 3}, {1, 121,
            120, 3}, {1, 1, 0, 3},
            {1, 1, -1, 3}, {1, -1, -1, 3}, {1, 1, 2, -1}, {1, 1, 2, 10000}, {Integer.MIN_VALUE, 1, 2, 3}, {1, Integer.MIN_VALUE, 2, 3},
            {1, 1, Integer.MAX_VALUE, 3}, {1, 1, 2, Integer.MAX_VALUE}, {1, 1, 2, Integer.MIN_VALUE}, {Integer.MAX_VALUE, 1, 2, 3}};
        for (int[] w : wrong) {
            CallSentences.refused("say " + w[0] + " " + w[1] + " " + w[2] + " " + w[3], z -> z.say(w[0], w[1], w[2], w[3]), -1);
        }
        Twins.leaves("20 are there", AskSentences::full, z -> z.say(1, 1, 1, 1), -1);
        ExcuseMarket y = full();
        y.forget();
        Check.due("room again", y.say(1, 1, 1, 1), 0);
    }

    /** With 20 that are SAID, and 20 that are KNOWN. */
    private static ExcuseMarket full() {
        ExcuseMarket x = Markets.fresh();
        for (int i = 0; i < 20; i++) {
            Check.due("say", x.say(i % 3, i, 100, 0), i);
            Check.due("know", x.know(i % 3, i / 3 % 3, 0), i);
        }
        return x;
    }

    private static void span() {
        Doc.promise(28, "SPAN: what 0 the least, 1 the greatest;");
        ExcuseMarket x = new ExcuseMarket();
        x.say(0, 30, 40, 0);
        x.say(9, 50, 60, 0);
        x.say(0, 41, 45, 0);
        Check.due("least of none", x.span(0, 0, 0), 0);
        Check.due("greatest of none", x.span(0, 0, 1), 120);
        Check.due("least", x.span(0, 1, 0), 30);
        Check.due("greatest", x.span(0, 2, 1), 40);
        Check.due("least", x.span(9, 3, 0), 50);
        Check.due("greatest", x.span(9, 3, 1), 60);
        Doc.promise(28, "-2: none is left;");
        Check.due("least", x.span(0, 3, 0), -2);
        Check.due("greatest", x.span(0, 3, 1), -2);
        Doc.promise(28, "NONE: no such ones.");
        none("kind", n -> x.span(n, 0, 0), 10, 11);
        none("k", n -> x.span(0, n, 0), 4, 20, 21);
        none("k of another", n -> x.span(9, n, 1), 4);
        none("what", n -> x.span(0, 0, n), 2);
        none("what, none left", n -> x.span(0, 3, n), 2);
    }

    private static void know() {
        Doc.promise(29, "KNOWN: its number;");
        ExcuseMarket x = Check.reader("man a 1 1;man b 1 1;excuse e 1 1 1 1;excuse f 1 1 1 1;duty d a 1 1;");
        Check.due("know", x.know(0, 0, 0), 0);
        Check.due("know", x.know(1, 1, 9), 1);
        Check.due("again", x.know(1, 1, 9), 2);
        Check.due("KNOWN", x.count(14), 3);
        Doc.promise(29, "NONE, and nothing happens: 20 are there, no such ones (often 0 .. 9).");
        for (int n : new int[] {-1, -2, 3, 7, 32, Integer.MAX_VALUE, Integer.MIN_VALUE}) {
            CallSentences.refused("excuse " + n, z -> z.know(n, 0, 1), -1);
            CallSentences.refused("man " + n, z -> z.know(0, n, 1), -1);
        }
        for (int n : new int[] {-1, 10, Integer.MAX_VALUE, Integer.MIN_VALUE}) {
            CallSentences.refused("often " + n, z -> z.know(0, 0, n), -1);
        }
        Twins.leaves("20 are there", AskSentences::full, z -> z.know(0, 0, 0), -1);
        ExcuseMarket y = full();
        y.forget();
        Check.due("room again", y.know(0, 0, 0), 0);
    }

    private static void fits() {
        Doc.promise(30, "FITS, by the first k of what is KNOWN;");
        ExcuseMarket x = Check.reader("man a 1 1;man b 1 1;excuse e 1 1 1 1;duty d a 1 1;duty g a 1 1;duty h b 1 1;");
        x.know(0, 1, 1);
        x.know(0, 0, 1);
        int[] due = {4, 4, 2};
        for (int k = 0; k < due.length; k++) {
            Check.due("a by " + k, x.fits(0, k), due[k]);
            Check.due("b by " + k, x.fits(1, k), k == 0 ? 2 : 1);
        }
        Doc.promise(30, "NONE: no such ones.");
        none("man", n -> x.fits(n, 0), 2, 5);
        none("k", n -> x.fits(0, n), 3, 20);
    }

    private static void forget() {
        Doc.promise(31, "All that was SAID and KNOWN is forgotten: how many there were of both.");
        ExcuseMarket x = Markets.rich();
        Check.due("both", x.forget(), 3);
        Check.due("none is left", x.count(13) * 10 + x.count(14), 0);
        Check.due("again", x.forget(), 0);
        Check.due("SPAN", x.span(2, 0, 0), 0);
        Check.due("SPAN", x.span(2, 1, 0), -1);
        Check.due("numbers anew", x.say(1, 1, 1, 1) + x.know(0, 0, 1), 0);
        Check.due("40", full().forget(), 40);
        ExcuseMarket y = Markets.rich();
        y.forget();
        y.say(2, 30, 40, 0);
        y.say(3, 50, 60, 400);
        y.know(0, 0, 1);
        Twins.alike("told again", y, Markets.rich());
    }

    private static void hold() {
        Doc.promise(32, "All that goes on (not what is SAID or KNOWN, nor the tape) is held in a SLOT (0 .. 2): true;");
        ExcuseMarket x = Markets.fresh();
        for (int slot = 0; slot < 3; slot++) {
            Check.due("hold", x.hold(slot), true);
            Check.due("SLOTS", x.count(15), slot + 1);
            Check.due("again", x.hold(slot), true);
            Check.due("SLOTS", x.count(15), slot + 1);
        }
        Check.due("no thing done", x.count(12), 0);
        ExcuseMarket y = Markets.rich();
        y.hold(1);
        y.forget();
        y.back(20);
        y.sell(0);
        y.plan(2, -1);
        y.plan(3, -1);
        y.days(60);
        Check.due("restore", y.restore(1), true);
        int[] due = {3, 3, 4, 1, 1, 16, 3, 1, 1, 0, 2, 0, 0, 0, 0, 3};
        for (int what = 0; what < due.length; what++) {
            Check.due("count " + what, y.count(what), due[what]);
        }
        Check.due("TRUST", y.man(0, 0), 47);
        Check.due("told", y.told(0, 0, true), 0);
        Check.due("planned", y.duty(3, 3), 1);
        Check.due("yet to come", y.duty(3, 4), 0);
        Check.due("of one that is over", y.duty(0, 3), 0);
        Doc.promise(32, "false: no such one.");
        for (int slot : new int[] {3, 4, -1, -2, 32, Integer.MAX_VALUE, Integer.MIN_VALUE}) {
            CallSentences.refused("hold " + slot, z -> bit(z.hold(slot)), 0);
        }
    }

    private static void restore() {
        Doc.promise(33, "It goes on from what a SLOT holds (that stays there; nothing can be undone then): true;");
        ExcuseMarket x = Markets.fresh();
        x.hold(0);
        x.buy(0);
        x.hold(1);
        x.days(1);
        x.hold(2);
        Check.due("restore 0", x.restore(0), true);
        Check.due("nothing to undo", x.count(12), 0);
        Check.due("nothing to undo", x.undo(), false);
        x.buy(1);
        Check.due("goes on", x.undo(), true);
        x.buy(1);
        Check.due("restore 0 again", x.restore(0), true);
        Check.due("COINS", x.count(5), 31);
        Check.due("restore 2", x.restore(2), true);
        Check.due("day", x.count(4), 1);
        Check.due("restore 1", x.restore(1), true);
        Check.due("day", x.count(4), 0);
        Check.due("has", x.count(7), 1);
        x.buy(1);
        Check.due("held anew", x.hold(0), true);
        x.undo();
        Check.due("undone", x.count(7), 1);
        x.restore(0);
        Check.due("a SLOT is not undone", x.count(7), 3);
        Check.due("SLOTS", x.count(15), 3);
        ExcuseMarket y = Markets.rich();
        y.restore(0);
        Check.due("SAID, KNOWN and the tape stay", y.count(13) * 1000 + y.count(14) * 100 + y.count(11), 2120);
        Check.due("goes on", y.days(1), 2);
    }

    private static void restoreRefused() {
        Doc.promise(33, "false, and nothing happens: no such one, nothing is held.");
        for (int slot : new int[] {1, 3, 4, -1, -2, 32, Integer.MAX_VALUE, Integer.MIN_VALUE}) {
            CallSentences.refused("restore " + slot, z -> bit(z.restore(slot)), 0);
        }
        ExcuseMarket x = Markets.rich();
        for (int slot = 0; slot < 3; slot++) {
            Check.due("held " + slot, x.restore(slot), slot != 1);
        }
        x.back(20);
        Check.type(x, "#");
        x.read();
        Check.due("a FAULT leaves them", x.restore(0), true);
        x.read();
        Check.due("a text empties them", x.restore(0), false);
    }

    private static void count() {
        Doc.promise(34,
            "0 MEN, 1 EXCUSES, 2 DUTIES, 3 TESTS, 4 the day, 5 COINS, 6 HOURS spent, 7 EXCUSES one has (bits), 8 FREE DUTIES (bits), "
            + "9 CAUGHT ones (bits), 10 DONE ones (bits), 11 bytes on the tape, 12 things that can be undone, 13 SAID ones, 14 KNOWN ones, "
            + "15 SLOTS that hold something.");
        ExcuseMarket x = AheadSentences.owner("man a 50 0;man b 50 0;excuse e 1 9 1 0;excuse f 2 9 1 99;excuse g 3 9 1 99;"
            + "duty d a 0 1;duty h a 0 2;duty i a 0 4;"
            + "duty j a 9 8;test s;passes = 2 * strong;coins 40;", 0, 2);
        x.plan(0, 2);
        x.plan(1, 0);
        x.days(1);
        x.say(1, 2, 3, 4);
        x.say(1, 2, 3, 4);
        x.say(1, 2, 3, 4);
        x.know(0, 0, 1);
        x.know(0, 0, 1);
        x.hold(2);
        x.feed(0, 0, 0, 0, 0);
        x.back(1);
        int[] due = {2, 3, 4, 1, 1, 36, 6, 5, 1, 2, 4, 19, 5, 3, 2, 1};
        for (int what = 0; what < due.length; what++) {
            Check.due("count " + what, x.count(what), due[what]);
        }
        Doc.promise(34, "NONE for others.");
        none("what", x::count, 16, 17);
    }
}
