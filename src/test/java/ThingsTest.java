/** Promises 6 to 15 and 34: what things are, what is done by hand, days, and undoing. */
public final class ThingsTest {
    private static final String TEXT = "man ann 50 2;man bob 40 0;man cid 98 9;excuse ill 11 9 1 30;excuse aunt 8 5 2 20;"
        + "excuse rare 20 9 3 60 once;duty da ann 0 2;duty db bob 0 3;duty dc ann 2 4;duty dd cid 4 1;knows ann bob;"
        + "knows cid ann;test ta ill;passes = 100;wears = 5;coins 31;";

    public static void main(String[] args) {
        things();
        rain();
        buyAndSell();
        plan();
        dayThatPasses();
        dayCaughtByTheLot();
        bounds();
        once();
        undo();
        counts();
        Check.end("ThingsTest");
    }

    private static void row(String what, int[] got, int... due) {
        for (int i = 0; i < due.length; i++) {
            Check.due(what + " " + i, got[i], due[i]);
        }
    }

    private static int[] man(ExcuseMarket x, int man) {
        return new int[] {x.man(man, 0), x.man(man, 1), x.man(man, 2), x.man(man, 3), x.man(man, 4), x.man(man, 5), x.man(man, -1)};
    }

    private static int[] excuse(ExcuseMarket x, int excuse) {
        int[] all = new int[9];
        for (int what = 0; what < 9; what++) {
            all[what] = x.excuse(excuse, what < 8 ? what : -1);
        }
        return all;
    }

    private static int[] duty(ExcuseMarket x, int duty) {
        int[] all = new int[7];
        for (int what = 0; what < 7; what++) {
            all[what] = x.duty(duty, what < 6 ? what : -1);
        }
        return all;
    }

    private static void things() {
        ExcuseMarket x = Check.reader(TEXT);
        row("ann", man(x, 0), 50, 2, 6, 0, 0, -1, -1);
        row("bob", man(x, 1), 40, 0, 1, 0, 0, -1, -1);
        row("cid", man(x, 2), 98, 9, 1, 0, 0, -1, -1);
        row("ill", excuse(x, 0), 11, 9, 1, 30, 0, 0, 0, -1, -1);
        row("rare", excuse(x, 2), 20, 9, 3, 60, 0, 0, 0, -1, -1);
        row("da", duty(x, 0), 0, 0, 2, -2, 0, -1, -1);
        row("dd", duty(x, 3), 2, 4, 1, -2, 0, -1, -1);
        for (int none : new int[] {-1, 3, Integer.MAX_VALUE, Integer.MIN_VALUE}) {
            Check.due("no man", x.man(none, 0), -1);
            Check.due("no excuse", x.excuse(none, 0), -1);
            Check.due("no duty", x.duty(none == 3 ? 4 : none, 0), -1);
            Check.due("told by none", x.told(none, 0, false), -1);
            Check.due("told to none", x.told(0, none, true), -1);
            Check.due("buy none", x.buy(none), -1);
            Check.due("sell none", x.sell(none), -1);
            Check.due("plan for none", x.plan(none == 3 ? 4 : none, -1), false);
        }
        Check.due("never told", x.told(0, 0, false), 0);
        Check.due("never told last", x.told(0, 0, true), -2);
    }

    private static void rain() {
        // LOT 100 of seed 7: 45 on day 0, 96 on day 1, 87, 38, 96, and 24 on day 999; of seed 9999: 0 on day 0
        ExcuseMarket x = Check.reader("seed 7; rain 45;");
        row("rain 45", new int[] {x.rains(0), x.rains(1), x.rains(2), x.rains(3), x.rains(999)}, 0, 0, 0, 1, 1);
        x = Check.reader("seed 7; rain 46;");
        row("rain 46", new int[] {x.rains(0), x.rains(1), x.rains(2), x.rains(3), x.rains(999)}, 1, 0, 0, 1, 1);
        x = Check.reader("seed 7; rain 24;");
        row("rain 24", new int[] {x.rains(3), x.rains(999), x.rains(1000), x.rains(-1)}, 0, 0, -1, -1);
        Check.due("rain 0", Check.reader("seed 9999;").rains(0), 0);
        Check.due("rain 1", Check.reader("seed 9999;rain 1;").rains(0), 1);
        Check.due("rain 100", Check.reader("seed 7;rain 100;").rains(1), 1);
    }

    private static void buyAndSell() {
        ExcuseMarket x = Check.reader(TEXT);
        Check.due("buy", x.buy(0), 20);
        Check.due("buy again", x.buy(0), -2);
        Check.due("buy up to the last coin", x.buy(2), 0);
        Check.due("no coins", x.buy(1), -2);
        Check.due("coins", x.count(5), 0);
        Check.due("undone", x.count(12), 2);
        Check.due("has", x.count(7), 5);
        Check.due("has ill", x.excuse(0, 4), 1);
        Check.due("plan", x.plan(2, 0), true);
        Check.due("sell rounds down", x.sell(0), 5);
        Check.due("sell again", x.sell(0), -2);
        Check.due("sell what one never had", x.sell(1), -2);
        Check.due("undone", x.count(12), 4);
        Check.due("plans stay", x.duty(2, 3), 0);
        Check.due("plans stay", x.excuse(0, 6), 4);
        Check.due("one has it not", x.excuse(0, 4), 0);
        Check.due("sold for less than it costs", x.buy(0), -2);
        Check.due("free of charge", Check.reader("excuse e 0 1 1 1;coins 0;").buy(0), 0);
    }

    private static void plan() {
        ExcuseMarket x = Check.reader(TEXT);
        Check.due("without having it", x.plan(0, 0), false);
        x.buy(0);
        x.buy(1);
        Check.due("plan", x.plan(0, 0), true);
        Check.due("it is so", x.plan(0, 0), false);
        Check.due("another one", x.plan(0, 1), true);
        Check.due("no such excuse", x.plan(0, 3), false);
        Check.due("no such excuse", x.plan(0, -2), false);
        Check.due("no such duty", x.plan(4, 0), false);
        Check.due("one for two", x.plan(3, 1), true);
        Check.due("bits", x.excuse(1, 6), 9);
        Check.due("things done", x.count(12), 5);
        Check.due("taken back", x.plan(0, -1), true);
        Check.due("no plan", x.duty(0, 3), -2);
        Check.due("none to take back", x.plan(0, -1), false);
        Check.due("bits", x.excuse(1, 6), 8);
        x.sell(1);
        Check.due("it is so, though sold", x.plan(3, 1), false);
        Check.due("taken back, though sold", x.plan(3, -1), true);
        Check.due("sold", x.plan(3, 1), false);
        x.plan(0, 0);
        x.days(1);
        Check.due("over", x.plan(0, -1), false);
        Check.due("over and never planned", x.plan(1, 0), false);
        Check.due("plans of those that are over", x.excuse(0, 6), 1);
        Check.due("plan of one that is over", x.duty(0, 3), 0);
        Check.due("yet to come", x.plan(2, 0), true);
        x.days(1);
        Check.due("today's, too", x.plan(2, -1), true);
        x.days(1);
        Check.due("done", x.plan(2, 0), false);
    }

    private static void dayThatPasses() {
        ExcuseMarket x = Check.reader(TEXT);
        x.buy(0);
        x.buy(1);
        x.plan(0, 0);
        x.plan(3, 0);
        x.plan(2, 1);
        Check.due("no such days", x.days(-1), -1);
        Check.due("no such days", x.days(61), -1);
        Check.due("no day", x.days(0), 0);
        Check.due("no thing done", x.count(12), 5);
        Check.due("a day", x.days(1), 1);
        row("ann", man(x, 0), 47, 2, 6, 1, 0);
        row("bob", man(x, 1), 40, 0, 1, 0, 0);
        row("cid", man(x, 2), 99, 9, 1, 0, 0);
        row("da", duty(x, 0), 0, 0, 2, 0, 1);
        row("db", duty(x, 1), 1, 0, 3, -2, 3);
        row("dc", duty(x, 2), 0, 2, 4, 1, 0);
        Check.due("hours", x.count(6), 3);
        row("ill", excuse(x, 0), 11, 9, 1, 30, 1, 1, 9);
        Check.due("sold before it is told", x.sell(1), 16);
        Check.due("many days", x.days(60), 61);
        row("ann", man(x, 0), 99, 2, 6, 1, 0);
        row("cid", man(x, 2), 99, 9, 1, 1, 0);
        row("dc", duty(x, 2), 0, 2, 4, 1, 3);
        row("dd", duty(x, 3), 2, 4, 1, 0, 1);
        Check.due("hours", x.count(6), 7);
        row("ill", excuse(x, 0), 11, 9, 1, 30, 1, 2, 9);
        Check.due("told", x.told(0, 2, false), 1);
        Check.due("told last", x.told(0, 2, true), 4);
        Check.due("told last", x.told(0, 0, true), 0);
        Check.due("told", x.told(0, 1, false), 0);
        Check.due("told", x.told(1, 0, false), 0);
        Check.due("day", x.count(4), 61);
    }

    /** LOT 100 of seed 7 on day 0: 68 for DUTY 0, 48 for 1, 0 for 2; on day 3: 87 for 0. */
    private static void dayCaughtByTheLot() {
        String men = "man a 50 0;man b 60 1;excuse e 1 99 1 68;excuse f 1 99 1 69;seed 7;passes = strong;wears = 7;";
        ExcuseMarket x = Check.reader(men + "duty d a 0 5;duty g b 0 4;duty h b 0 3;");
        x.buy(0);
        x.plan(0, 0);
        x.plan(1, 0);
        x.days(1);
        row("caught", duty(x, 0), 0, 0, 5, 0, 2);
        row("free", duty(x, 1), 1, 0, 4, 0, 1);
        row("done", duty(x, 2), 1, 0, 3, -2, 3);
        row("a", man(x, 0), 36, 0, 0, 1, 1);
        row("b", man(x, 1), 54, 1, 0, 1, 0);
        Check.due("hours", x.count(6), 8);
        Check.due("bits", x.count(8) * 100 + x.count(9) * 10 + x.count(10), 214);
        x = Check.reader(men + "duty d a 0 5;");
        x.buy(1);
        x.plan(0, 1);
        x.days(1);
        row("free by one more", duty(x, 0), 0, 0, 5, 1, 1);
        for (int strong = 48; strong <= 49; strong++) {
            x = Check.reader(men.replace("68", "" + strong) + "duty d a 0 5;duty g b 0 4;");
            x.buy(0);
            x.plan(1, 0);
            x.days(1);
            Check.due("the DUTY's number counts " + strong, x.duty(1, 4), strong == 48 ? 2 : 1);
        }
        x = Check.reader(men.replace("68", "87").replace("69", "88") + "duty d a 3 5;");
        x.buy(0);
        x.buy(1);
        x.plan(0, 0);
        Check.due("caught", x.planned(4, 1), 1);
        x.plan(0, 1);
        Check.due("free", x.planned(4, 0), 1);
        x = Check.reader("man a 50 0;excuse e 1 99 1 1;seed 7;passes = strong - 1;duty d a 1 1;duty g a 1 1;duty h a 0 1;");
        x.buy(0);
        x.plan(2, 0);
        x.days(1);
        Check.due("0 is not less than 0", x.duty(2, 4), 2);
    }

    private static void bounds() {
        ExcuseMarket x = Check.reader("man a 9 3;man b 97 3;excuse e 1 99 1 1;passes = 100;wears = 50;duty d a 0 5;");
        x.buy(0);
        x.plan(0, 0);
        x.days(1);
        Check.due("0 at least, then mended", x.man(0, 0), 3);
        Check.due("99 at most", x.man(1, 0), 99);
        x = Check.reader("man a 99 0;excuse e 1 99 1 1;passes = 0;wears = 45;duty d a 0 5;");
        x.buy(0);
        x.plan(0, 0);
        x.days(1);
        Check.due("twice as much", x.man(0, 0), 9);
        x = Check.reader("man a 99 0;excuse e 1 99 1 1;passes = 100;wears = 500;duty d a 0 5;");
        x.buy(0);
        x.plan(0, 0);
        x.days(1);
        Check.due("99 at most is lost", x.man(0, 0), 0);
        x = Check.reader("man a 50 0;excuse e 1 99 1 1;passes = 100;wears = 0 - 5;duty d a 0 5;");
        x.buy(0);
        x.plan(0, 0);
        x.days(1);
        Check.due("0 at least is lost", x.man(0, 0), 50);
        x = Check.reader("man a 80 0;excuse e 1 0 1 1;passes = 100;wears = 7;duty d a 1 5;");
        x.buy(0);
        x.plan(0, 0);
        x.days(2);
        Check.due("beyond GOOD: caught", x.duty(0, 4), 2);
        Check.due("beyond GOOD: WEARS is what its LAW tells", x.man(0, 0), 66);
    }

    private static void once() {
        String text = "man a 50 0;excuse e 10 99 1 1 once;duty d a 0 5;duty f a 0 2;duty g a 1 1;wears = wear * 10 + 1;passes = ";
        ExcuseMarket x = Check.reader(text + "100;");
        x.buy(0);
        x.plan(0, 0);
        x.plan(1, 0);
        x.plan(2, 0);
        x.days(1);
        Check.due("free", x.count(8), 1);
        Check.due("gone, so done", x.count(10), 2);
        Check.due("gone", x.count(7), 0);
        Check.due("sell", x.sell(0), -2);
        Check.due("bought again", x.buy(0), 30);
        x.days(1);
        Check.due("told again by the old plan", x.count(8), 5);
        Check.due("wear as things are ahead of it", x.man(0, 0), 38);
        x = Check.reader(text + "0;");
        x.buy(0);
        x.plan(0, 0);
        x.days(1);
        Check.due("gone when caught, too", x.count(7), 0);
        Check.due("caught", x.count(9), 1);
    }

    private static void undo() {
        ExcuseMarket x = Check.reader(TEXT);
        x.buy(0);
        x.plan(0, 0);
        x.days(3);
        x.sell(0);
        Check.due("things", x.count(12), 4);
        Check.due("undo sell", x.undo(), true);
        Check.due("has", x.count(7), 1);
        Check.due("coins", x.count(5), 20);
        Check.due("undo days", x.undo(), true);
        Check.due("day", x.count(4), 0);
        Check.due("hours", x.count(6), 0);
        Check.due("trust", x.man(0, 0), 50);
        Check.due("told", x.told(0, 0, false), 0);
        Check.due("over", x.count(8) + x.count(9) + x.count(10), 0);
        Check.due("undo plan", x.undo(), true);
        Check.due("plan", x.duty(0, 3), -2);
        Check.due("undo buy", x.undo(), true);
        Check.due("coins", x.count(5), 31);
        Check.due("undo none", x.undo(), false);
        for (int i = 1; i <= 45; i++) {
            x.days(1);
            Check.due("things", x.count(12), Math.min(i, 40));
        }
        for (int i = 44; i >= 5; i--) {
            Check.due("undo", x.undo(), true);
            Check.due("day", x.count(4), i);
        }
        Check.due("the last 40", x.undo(), false);
        Check.due("day", x.count(4), 5);
        x.days(0);
        x.days(99);
        x.buy(9);
        x.sell(0);
        x.plan(0, 0);
        Check.due("nothing done", x.count(12), 0);
    }

    private static void counts() {
        ExcuseMarket x = Check.reader(TEXT);
        x.buy(0);
        x.plan(0, 0);
        x.days(1);
        x.say(1, 2, 3, 4);
        x.say(1, 2, 3, 4);
        x.know(0, 0, 1);
        x.hold(2);
        x.hold(2);
        x.feed(0, 0, 0, 0, 0);
        int[] due = {3, 3, 4, 1, 1, 20, 3, 1, 1, 0, 2, 20, 3, 2, 1, 1};
        for (int what = 0; what < due.length; what++) {
            Check.due("count " + what, x.count(what), due[what]);
        }
        Check.due("count of others", x.count(16), -1);
        Check.due("count of others", x.count(-1), -1);
    }
}
