/** Promises 32 and 33. */
public final class SlotsTest {
    private static final String TEXT = "man a 50 2;man b 40 0;excuse e 11 9 1 30;excuse f 8 5 2 20 once;"
        + "duty da a 0 2;duty db b 0 3;duty dc a 2 4;passes = 100;wears = 5;coins 31;";

    public static void main(String[] args) {
        wrongSlots();
        goesOnFromThere();
        staysThere();
        leavesTheRest();
        Check.end("SlotsTest");
    }

    private static void wrongSlots() {
        ExcuseMarket x = Check.reader(TEXT);
        for (int slot : new int[] {-1, 3, Integer.MAX_VALUE, Integer.MIN_VALUE}) {
            Check.due("hold " + slot, x.hold(slot), false);
            Check.due("restore " + slot, x.restore(slot), false);
        }
        Check.due("nothing held", x.count(15), 0);
        for (int slot = 0; slot < 3; slot++) {
            x.buy(0);
            Check.due("nothing held", x.restore(slot), false);
            Check.due("nothing happens", x.undo(), true);
        }
    }

    private static void goesOnFromThere() {
        ExcuseMarket x = Check.reader(TEXT);
        x.buy(0);
        x.buy(1);
        x.plan(0, 0);
        x.plan(1, 1);
        x.days(1);
        Check.due("hold", x.hold(1), true);
        Check.due("hold is no thing done", x.count(12), 5);
        x.plan(2, 0);
        x.days(5);
        x.sell(0);
        x.buy(1);
        Check.due("restore another one", x.restore(0), false);
        Check.due("restore", x.restore(1), true);
        int[] due = {2, 2, 3, 0, 1, 12, 0, 1, 3, 0, 0, 0, 0, 0, 0, 1};
        for (int what = 0; what < due.length; what++) {
            Check.due("count " + what, x.count(what), due[what]);
        }
        Check.due("undo", x.undo(), false);
        Check.due("trust", x.man(0, 0), 47);
        Check.due("told", x.told(1, 1, true), 0);
        Check.due("told", x.told(0, 0, false), 1);
        Check.due("plan", x.duty(2, 3), -2);
        Check.due("plan of one that is over", x.duty(1, 3), 1);
        Check.due("yet to come", x.duty(2, 4), 0);
        Check.due("goes on", x.plan(2, 0), true);
        Check.due("goes on", x.days(2), 3);
        Check.due("goes on", x.count(8), 7);
        Check.due("goes on", x.undo(), true);
    }

    private static void staysThere() {
        ExcuseMarket x = Check.reader(TEXT);
        x.hold(0);
        x.buy(0);
        x.hold(1);
        x.days(1);
        x.hold(2);
        Check.due("slots", x.count(15), 3);
        Check.due("restore 0", x.restore(0), true);
        x.buy(1);
        Check.due("restore 0 again", x.restore(0), true);
        Check.due("coins", x.count(5), 31);
        Check.due("restore 2", x.restore(2), true);
        Check.due("day", x.count(4), 1);
        Check.due("restore 1", x.restore(1), true);
        Check.due("day", x.count(4), 0);
        Check.due("has", x.count(7), 1);
        x.buy(1);
        Check.due("held anew", x.hold(0), true);
        x.undo();
        Check.due("undone", x.count(7), 1);
        x.restore(0);
        Check.due("a slot is not undone", x.count(7), 3);
    }

    private static void leavesTheRest() {
        ExcuseMarket x = Check.reader(TEXT);
        Check.type(x, "man ?");
        x.read();
        x.hold(0);
        x.say(1, 2, 3, 4);
        x.know(0, 0, 1);
        x.feed(0, 0, 0, 0, 0);
        x.restore(0);
        Check.due("said", x.count(13), 1);
        Check.due("known", x.count(14), 1);
        Check.due("tape", x.count(11), 20);
        Check.due("place", x.place(), 4);
        x.read();
        Check.due("a fault leaves the slots", x.restore(0), true);
        Check.type(x, TEXT);
        x.read();
        Check.due("a text empties them", x.restore(0), false);
        Check.due("a text empties them", x.count(15), 0);
    }
}
