import java.util.function.ToIntFunction;

/** Promises 1 to 15: the tape, what things are, and what is done. */
final class CallSentences {
    private static final int[] OUTSIDE = {-1, -2, Integer.MIN_VALUE, Integer.MAX_VALUE, 32, 64, -32};

    private CallSentences() {
    }

    static void all() {
        newObject();
        feed();
        back();
        read();
        place();
        man();
        excuse();
        duty();
        told();
        rains();
        buy();
        sell();
        plan();
        planRefused();
        days();
        undo();
        callsOfOneObject();
    }

    static void refused(String what, ToIntFunction<ExcuseMarket> call, int due) {
        Twins.leaves(what, Markets::rich, call, due);
    }

    private static void newObject() {
        Doc.promise(1, "Nothing is told.");
        ExcuseMarket x = new ExcuseMarket();
        for (int what = 0; what <= 15; what++) {
            Check.due("count " + what, x.count(what), what == 5 ? 50 : 0);
        }
        Check.due("place", x.place(), -1);
        Check.due("man", x.man(0, 0), -1);
        Check.due("excuse", x.excuse(0, 0), -1);
        Check.due("duty", x.duty(0, 0), -1);
        Check.due("told", x.told(0, 0, false), -1);
        Check.due("buy", x.buy(0), -1);
        Check.due("sell", x.sell(0), -1);
        Check.due("plan", x.plan(0, -1), false);
        Check.due("pass", x.pass(0, 0), -1);
        Check.due("planned", x.planned(30, 0) + x.planned(30, 1) + x.planned(30, 2) + x.planned(30, 3), 0);
        Check.due("trust", x.trust(0, 0), -1);
        Check.due("year", x.year(30, 20), 0);
        Check.due("cheapest", x.cheapest(1, 0), -1);
        Check.due("two", x.two(-1), 0);
        Check.due("rumour", x.rumour(0, 0), -1);
        Check.due("apart", x.apart(0) + x.apart(1), 0);
        Check.due("calm", x.calm(0, 0, 0), -1);
        Check.due("know", x.know(0, 0, 0), -1);
        Check.due("fits", x.fits(0, 0), -1);
        Check.due("forget", x.forget(), 0);
        for (int day = 0; day < 50; day++) {
            Check.due("rains", x.rains(day), 0);
        }
        Check.due("restore", x.restore(0), false);
        Check.due("undo", x.undo(), false);
        Check.due("days go by", x.days(60), 60);
        Check.due("undo", x.undo(), true);
        Check.due("NONE", ExcuseMarket.NONE, -1);
        Twins.alike("as one that read a text of nothing", new ExcuseMarket(), Check.reader(""));
    }

    private static void feed() {
        Doc.promise(2, "Twenty bytes, the highest of a first, come behind the tape: how many it has.");
        ExcuseMarket x = new ExcuseMarket();
        // "man abcdefgh 12 3;rain 1"
        Check.due("feed", x.feed(0x6d616e20, 0x61626364, 0x65666768, 0x20313220, 0x333b7261), 20);
        Check.due("feed", x.feed(0x696e2031, 0x3b202020, 0x20202020, 0x20202020, 0x2020203b), 40);
        Check.due("tape", x.count(11), 40);
        Check.due("its last byte is the last one", x.read(), 1);
        Check.due("its place", x.place(), 39);
        x.feed(0x6d616e20, 0x61626364, 0x65666768, 0x20313220, 0x333b2020);
        Check.due("read", x.read(), 0);
        Check.due("TRUST", x.man(0, 0), 12);
        Check.due("MENDS", x.man(0, 1), 3);
        // bytes from 128 on are bytes, too: none of them is a TOKEN
        x.feed(0x2020ff20, 0x20202020, 0x20202020, 0x20202020, 0x20202020);
        Check.due("255", x.read() * 10 + x.place(), 12);
        x.feed(0x80202020, 0x20202020, 0x20202020, 0x20202020, 0x20202020);
        Check.due("128", x.read() * 10 + x.place(), 10);
        Doc.promise(2, "NONE, and nothing comes, if it would have more than 2,000.");
        for (int i = 1; i <= 100; i++) {
            Check.due("feed " + i, x.feed(0x20202020, 0x20202020, 0x20202020, 0x20202020, 0x20202020), 20 * i);
        }
        Check.due("full", x.feed(0x3b3b3b3b, 0, 0, 0, 0), -1);
        Check.due("tape", x.count(11), 2000);
        for (int gone = 1; gone < 20; gone++) {
            Check.due("back", x.back(1), 2000 - gone);
            Check.due("room for " + gone, x.feed(0x3b3b3b3b, 0x3b3b3b3b, 0x3b3b3b3b, 0x3b3b3b3b, 0x3b3b3b3b), -1);
            Check.due("tape", x.count(11), 2000 - gone);
        }
        Check.due("back", x.back(1), 1980);
        Check.due("room for 20", x.feed(0x20202020, 0x20202020, 0x20202020, 0x20202020, 0x20202020), 2000);
        Check.due("nothing came", x.read(), 0);
    }

    private static void back() {
        Doc.promise(3, "The last n bytes of the tape go: how many it has.");
        ExcuseMarket x = new ExcuseMarket();
        x.feed(0x6d616e20, 0x61203132, 0x20333b20, 0x3b3b3b3b, 0x3b3b3b3b);
        Check.due("none", x.back(0), 20);
        Check.due("some", x.back(3), 17);
        Check.due("some", x.back(5), 12);
        Check.due("tape", x.count(11), 12);
        Check.due("read of the rest", x.read(), 0);
        Check.due("TRUST", x.man(0, 0), 12);
        String[] longer = {"rain 12", "man ab", "rain 5;", "man abcdefghi", "seed 12345", "rain 101", "knows ab", "man a"};
        for (String text : longer) {
            Check.type(x, text);
            Check.due("one byte", x.back(1), text.length() - 1);
            Check.due("what went is not read: " + text, x.read(), 1);
            Check.due("but the end: " + text, x.place(), text.length() - 1);
        }
        for (String end : new String[] {"rain 5", "man ab", "man abcdefgh", "seed 1234", "passes = 1 +"}) {
            Check.type(x, " ".repeat(2000 - end.length()) + end);
            Check.due("the end of a full tape: " + end, x.read(), 1);
            Check.due("the end of a full tape: " + end, x.place(), 2000);
        }
        x.feed(0, 0, 0, 0, 0);
        Check.due("all", x.back(20), 0);
        Check.due("none of none", x.back(0), 0);
        Doc.promise(3, "NONE, and nothing goes, if it has not so many, or n is below 0.");
        Check.due("of an empty one", x.back(1), -1);
        x.feed(0, 0, 0, 0, 0);
        for (int n : new int[] {21, 22, 2000, Integer.MAX_VALUE, -1, -20, Integer.MIN_VALUE}) {
            Check.due("back " + n, x.back(n), -1);
            Check.due("tape", x.count(11), 20);
            refused("back " + n, y -> y.back(n), -1);
        }
        Check.due("just so many", x.back(20), 0);
    }

    private static void read() {
        Doc.promise(4, "The tape, which is empty then, is read: 0, or the number of its FAULT.");
        String[] texts = {"man a 1 1;", "man", "man a (", "test a;test a;", "knows a b;", "rain 101;"};
        int[] due = {0, 1, 1, 3, 4, 5};
        ExcuseMarket x = new ExcuseMarket();
        for (int i = 0; i < texts.length; i++) {
            Check.type(x, texts[i]);
            Check.due("read of " + texts[i], x.read(), due[i]);
            Check.due("empty", x.count(11), 0);
            Check.due("nothing goes", x.back(1), -1);
        }
        Check.type(x, "passes = " + "(".repeat(7));
        Check.due("read", x.read(), 2);
        Check.due("the text stays", x.count(0), 1);
        Check.due("read of an empty tape", x.read(), 0);
        Check.due("nothing is told by it", x.count(0), 0);
    }

    private static void place() {
        Doc.promise(5, "The byte of the latest read()'s FAULT; NONE without.");
        ExcuseMarket x = new ExcuseMarket();
        Check.due("nothing read", x.place(), -1);
        Check.type(x, "rain 5;");
        x.read();
        Check.due("no FAULT", x.place(), -1);
        Check.type(x, "?");
        Check.due("not yet", x.place(), -1);
        x.read();
        Check.due("the first byte", x.place(), 0);
        Check.due("again", x.place(), 0);
        Check.type(x, "man a 1 100;");
        x.buy(0);
        Check.due("of the latest read", x.place(), 0);
        x.read();
        Check.due("of the latest read", x.place(), 8);
        Check.type(x, " ".repeat(1999) + "?");
        x.read();
        Check.due("the last byte there can be", x.place(), 1999);
        Check.type(x, " ".repeat(1996) + "rain");
        x.read();
        Check.due("the longest text's end", x.place(), 2000);
        x.read();
        Check.due("none any more", x.place(), -1);
    }

    private static void row(String what, ToIntFunction<Integer> call, int... due) {
        for (int i = 0; i < due.length; i++) {
            Check.due(what + " " + i, call.applyAsInt(i), due[i]);
        }
    }

    private static void man() {
        Doc.promise(6,
            "Of a MAN: what 0 TRUST, 1 MENDS, 2 MEN who KNOW him (bits), 3 how often he was told something, 4 how often it was CAUGHT.");
        ExcuseMarket x = Markets.fresh();
        row("ann", w -> x.man(0, w), 50, 2, 6, 0, 0);
        row("bob", w -> x.man(1, w), 40, 0, 1, 0, 0);
        row("cid", w -> x.man(2, w), 98, 9, 1, 0, 0);
        ExcuseMarket y = AheadSentences.owner("man a 90 0;man b 90 1;excuse e 1 99 1 99;excuse f 1 99 1 0;duty d a 0 1;"
            + "duty g a 0 1;duty h a 1 1;"
            + "duty i b 0 1;duty j b 1 1;passes = strong * 2;wears = 5;", 0, 1);
        for (int duty = 0; duty < 4; duty++) {
            y.plan(duty, duty == 1 ? 0 : 1);
        }
        row("planned", w -> y.man(0, w), 90, 0, 0, 0, 0);
        y.days(1);
        row("a, CAUGHT and FREE", w -> y.man(0, w), 75, 0, 0, 2, 1);
        row("b, CAUGHT", w -> y.man(1, w), 81, 1, 0, 1, 1);
        y.days(1);
        row("a, CAUGHT again", w -> y.man(0, w), 65, 0, 0, 3, 2);
        row("b, DONE", w -> y.man(1, w), 82, 1, 0, 1, 1);
        Doc.promise(6, "NONE for others.");
        for (int what : new int[] {5, 6, -1, Integer.MAX_VALUE, Integer.MIN_VALUE}) {
            Check.due("what " + what, x.man(0, what), -1);
        }
        Check.due("the fourth MAN", x.man(3, 0), -1);
        for (int none : OUTSIDE) {
            Check.due("man " + none, x.man(none, 0), -1);
        }
        refused("no MAN", z -> z.man(3, 0), -1);
    }

    private static void excuse() {
        Doc.promise(7,
            "Of an EXCUSE: what 0 PRICE, 1 GOOD, 2 KIND, 3 STRONG, 4: 1 one has it, else 0, 5 how often it was told, 6 DUTIES for which it "
            + "is planned (bits; of those that are over, too).");
        ExcuseMarket x = Markets.fresh();
        row("ill", w -> x.excuse(0, w), 11, 9, 1, 30, 0, 0, 0);
        row("rare", w -> x.excuse(2, w), 20, 9, 3, 60, 0, 0, 0);
        ExcuseMarket y = Markets.fresh();
        y.buy(0);
        y.buy(1);
        y.plan(0, 0);
        y.plan(1, 0);
        y.plan(3, 0);
        y.plan(2, 1);
        row("planned", w -> y.excuse(0, w), 11, 9, 1, 30, 1, 0, 11);
        y.days(1);
        row("told twice", w -> y.excuse(0, w), 11, 9, 1, 30, 1, 2, 11);
        y.plan(3, -1);
        row("one taken back", w -> y.excuse(0, w), 11, 9, 1, 30, 1, 2, 3);
        y.sell(1);
        row("sold", w -> y.excuse(1, w), 8, 5, 2, 20, 0, 0, 4);
        y.days(4);
        row("DONE without it", w -> y.excuse(1, w), 8, 5, 2, 20, 0, 0, 4);
        ExcuseMarket z = AheadSentences.owner("man a 50 0;excuse e 1 9 2 3;excuse f 4 9 5 6;duty d a 0 1;duty g a 0 1;"
            + "passes = hours - 1;", 0, 1);
        z.plan(0, 1);
        z.plan(1, 1);
        z.days(1);
        row("CAUGHT, told twice", w -> z.excuse(1, w), 4, 9, 5, 6, 1, 2, 3);
        row("never told", w -> z.excuse(0, w), 1, 9, 2, 3, 1, 0, 0);
        Doc.promise(7, "NONE for others.");
        for (int what : new int[] {7, 8, -1, Integer.MAX_VALUE, Integer.MIN_VALUE}) {
            Check.due("what " + what, x.excuse(0, what), -1);
        }
        Check.due("the fourth EXCUSE", x.excuse(3, 0), -1);
        for (int none : OUTSIDE) {
            Check.due("excuse " + none, x.excuse(none, 4), -1);
        }
        refused("no EXCUSE", r -> r.excuse(3, 0), -1);
    }

    private static void duty() {
        Doc.promise(8, "Of a DUTY: what 0 its MAN, 1 its day, 2 HOURS, 3 the EXCUSE planned (of one that is over, too;"
            + " -2: none), 4: 0 yet to come, "
            + "1 FREE, 2 CAUGHT, 3 DONE.");
        ExcuseMarket x = Markets.fresh();
        row("da", w -> x.duty(0, w), 0, 0, 2, -2, 0);
        row("dd", w -> x.duty(3, w), 2, 4, 1, -2, 0);
        ExcuseMarket y = AheadSentences.owner("man a 90 0;excuse e 1 99 1 99;excuse f 1 99 1 0;duty d a 0 1;duty g a 0 2;"
            + "duty h a 0 3;duty i a 1 4;"
            + "duty j a 2 5;passes = strong * 2;", 0, 1);
        for (int duty = 0; duty < 4; duty++) {
            y.plan(duty, duty % 2);
        }
        y.plan(2, -1);
        row("today's", w -> y.duty(1, w), 0, 0, 2, 1, 0);
        y.days(1);
        y.sell(1);
        row("FREE", w -> y.duty(0, w), 0, 0, 1, 0, 1);
        row("CAUGHT", w -> y.duty(1, w), 0, 0, 2, 1, 2);
        row("DONE", w -> y.duty(2, w), 0, 0, 3, -2, 3);
        row("yet to come", w -> y.duty(3, w), 0, 1, 4, 1, 0);
        y.days(1);
        row("DONE, its plan stays", w -> y.duty(3, w), 0, 1, 4, 1, 3);
        row("yet to come", w -> y.duty(4, w), 0, 2, 5, -2, 0);
        Doc.promise(8, "NONE for others.");
        for (int what : new int[] {5, 6, -1, Integer.MAX_VALUE, Integer.MIN_VALUE}) {
            Check.due("what " + what, x.duty(0, what), -1);
        }
        Check.due("the fifth DUTY", x.duty(4, 0), -1);
        for (int none : OUTSIDE) {
            Check.due("duty " + none, x.duty(none, 0), -1);
        }
        refused("no DUTY", z -> z.duty(4, 0), -1);
    }

    private static void told() {
        Doc.promise(9, "How often an EXCUSE was told to a MAN (last: on which day last; -2: never);");
        ExcuseMarket x = AheadSentences.owner("man a 90 0;man b 90 0;excuse e 1 99 1 99;excuse f 1 99 1 0;duty d a 5 1;"
            + "duty g a 0 2;duty h a 2 3;duty i b 3 4;"
            + "duty j b 3 4;passes = strong * 2;wears = 0;", 0, 1);
        for (int duty = 0; duty < 4; duty++) {
            x.plan(duty, 0);
        }
        x.plan(4, 1);
        int[][] due = {{0, -2, 0, -2, 0, -2}, {1, 0, 0, -2, 0, -2}, {1, 0, 0, -2, 0, -2}, {2, 2, 0, -2, 0, -2}, {2, 2, 1, 3, 1, 3},
            {2, 2, 1, 3, 1, 3}, {3, 5, 1, 3, 1, 3}};
        for (int[] row : due) {
            int[][] whom = {{0, 0}, {0, 1}, {1, 1}};
            for (int i = 0; i < 3; i++) {
                Check.due("told " + i + " on day " + x.count(4), x.told(whom[i][0], whom[i][1], false), row[2 * i]);
                Check.due("told last " + i + " on day " + x.count(4), x.told(whom[i][0], whom[i][1], true), row[2 * i + 1]);
            }
            Check.due("f to a", x.told(1, 0, false) * 10 + x.told(1, 0, true), -2);
            x.days(1);
        }
        Doc.promise(9, "NONE: no such ones.");
        for (boolean last : new boolean[] {false, true}) {
            Check.due("the third EXCUSE", x.told(2, 0, last), -1);
            Check.due("the third MAN", x.told(0, 2, last), -1);
            for (int none : OUTSIDE) {
                Check.due("excuse " + none, x.told(none, 0, last), -1);
                Check.due("man " + none, x.told(0, none, last), -1);
            }
        }
        refused("no such ones", z -> z.told(3, 0, false), -1);
    }

    private static void rains() {
        Doc.promise(10, "Whether IT RAINS on a day (0 .. 999): 1, else 0;");
        // LOT 100 of seed 7: 45 on day 0, 69 on day 998, 24 on day 999
        ExcuseMarket x = Check.reader("seed 7;rain 46;");
        Check.due("day 0", x.rains(0), 1);
        Check.due("day 998", x.rains(998), 0);
        Check.due("day 999", x.rains(999), 1);
        x.days(60);
        Check.due("whatever the day is", x.rains(0), 1);
        Doc.promise(10, "NONE: no such one.");
        for (int day : new int[] {-1, 1000, Integer.MAX_VALUE, Integer.MIN_VALUE}) {
            Check.due("day " + day, x.rains(day), -1);
        }
        refused("no such day", z -> z.rains(1000), -1);
    }

    private static void buy() {
        Doc.promise(11, "BOUGHT: COINS then;");
        ExcuseMarket x = Markets.fresh();
        Check.due("11 of 31", x.buy(0), 20);
        Check.due("up to the last one", x.buy(2), 0);
        Check.due("COINS", x.count(5), 0);
        Check.due("has", x.count(7), 5);
        Check.due("things done", x.count(12), 2);
        Check.due("for nothing", Check.reader("excuse e 0 1 1 1;coins 0;").buy(0), 0);
        Doc.promise(11, "-2, and nothing happens: one has it, not so many COINS;");
        Check.due("not so many COINS", x.buy(1), -2);
        Check.due("one has it", x.buy(0), -2);
        refused("one has it", z -> z.buy(0), -2);
        refused("not so many COINS: 20 of 16", z -> z.buy(2), -2);
        Check.due("one short", Check.reader("excuse e 9 1 1 1;coins 8;").buy(0), -2);
        Check.due("just enough", Check.reader("excuse e 9 1 1 1;coins 9;").buy(0), 0);
        Doc.promise(11, "NONE: no such one.");
        for (int none : new int[] {3, -1, -2, 7, 32, Integer.MAX_VALUE, Integer.MIN_VALUE}) {
            refused("buy " + none, z -> z.buy(none), -1);
        }
    }

    private static void sell() {
        Doc.promise(12, "SOLD: COINS then (plans with it stay);");
        ExcuseMarket x = Markets.fresh();
        x.buy(0);
        x.plan(2, 0);
        Check.due("half of 11", x.sell(0), 25);
        Check.due("has", x.count(7), 0);
        Check.due("the plan stays", x.duty(2, 3), 0);
        Check.due("the plan stays", x.excuse(0, 6), 4);
        Check.due("things done", x.count(12), 3);
        x.buy(0);
        x.days(3);
        Check.due("bought again, told by the old plan", x.duty(2, 4), 1);
        Doc.promise(12, "-2, and nothing happens: one has it not;");
        Check.due("sold", x.sell(0), 19);
        Check.due("sold already", x.sell(0), -2);
        Check.due("never had", x.sell(1), -2);
        refused("one has it not", z -> z.sell(1), -2);
        refused("one never had it", z -> z.sell(2), -2);
        Doc.promise(12, "NONE: no such one.");
        for (int none : new int[] {3, -1, -2, 7, 32, Integer.MAX_VALUE, Integer.MIN_VALUE}) {
            refused("sell " + none, z -> z.sell(none), -1);
        }
    }

    private static void plan() {
        Doc.promise(13, "PLANNED (excuse NONE: taken back): true;");
        ExcuseMarket x = AheadSentences.owner(Markets.TEXT, 0, 1);
        Check.due("plan", x.plan(0, 0), true);
        Check.due("another one", x.plan(0, 1), true);
        Check.due("one for two", x.plan(3, 1), true);
        Check.due("bits", x.excuse(1, 6), 9);
        Check.due("taken back", x.plan(0, -1), true);
        Check.due("no plan", x.duty(0, 3), -2);
        Check.due("bits", x.excuse(1, 6), 8);
        Check.due("things done", x.count(12), 6);
        x.sell(1);
        Check.due("taken back, though sold", x.plan(3, -1), true);
        Check.due("today's", x.plan(1, 0), true);
        x.days(2);
        Check.due("today's", x.plan(2, 0), true);
    }

    private static int bit(boolean b) {
        return b ? 1 : 0;
    }

    private static void planRefused() {
        Doc.promise(13, "false, and nothing happens: it is so, the DUTY is not yet to come, one has not the EXCUSE, no such ones.");
        ExcuseMarket x = AheadSentences.owner(Markets.TEXT, 0, 1);
        x.plan(0, 0);
        x.plan(3, 1);
        x.sell(1);
        Check.due("it is so", x.plan(0, 0), false);
        Check.due("it is so, though sold", x.plan(3, 1), false);
        Check.due("none to take back", x.plan(1, -1), false);
        Check.due("one has it not", x.plan(1, 1), false);
        Check.due("one never had it", x.plan(1, 2), false);
        x.days(1);
        Check.due("it is FREE", x.plan(0, -1), false);
        Check.due("it is DONE", x.plan(1, 0), false);
        refused("it is so", z -> bit(z.plan(3, 1)), 0);
        refused("none to take back", z -> bit(z.plan(2, -1)), 0);
        refused("it is FREE", z -> bit(z.plan(0, -1)), 0);
        refused("it is DONE", z -> bit(z.plan(1, 0)), 0);
        refused("one has it not", z -> bit(z.plan(2, 1)), 0);
        refused("one never had it", z -> bit(z.plan(2, 2)), 0);
        for (int none : new int[] {3, -2, -3, 32, 64, Integer.MAX_VALUE, Integer.MIN_VALUE}) {
            refused("no EXCUSE " + none, z -> bit(z.plan(2, none)), 0);
        }
        for (int none : new int[] {4, -1, -2, 9, 32, 34, Integer.MAX_VALUE, Integer.MIN_VALUE}) {
            refused("no DUTY " + none, z -> bit(z.plan(none, 0)), 0);
            refused("no DUTY to take back " + none, z -> bit(z.plan(none, -1)), 0);
        }
        x = AheadSentences.owner("man a 50 0;excuse e 1 99 1 1;duty d a 0 1;passes = 0;", 0);
        x.plan(0, 0);
        x.days(1);
        Check.due("it is CAUGHT", x.plan(0, -1), false);
    }

    private static void days() {
        Doc.promise(14, "n DAYS (0 .. 60; 0 is no thing done) go by: which it is;");
        ExcuseMarket x = Markets.fresh();
        Check.due("none", x.days(0), 0);
        Check.due("no thing done", x.count(12), 0);
        Check.due("one", x.days(1), 1);
        Check.due("a thing done", x.count(12), 1);
        Check.due("sixty", x.days(60), 61);
        Check.due("none", x.days(0), 61);
        Check.due("things done", x.count(12), 2);
        Check.due("day", x.count(4), 61);
        Twins.leaves("none", Markets::rich, z -> z.days(0), 1);
        Doc.promise(14, "NONE, and nothing happens: no such n.");
        for (int n : new int[] {-1, 61, 62, Integer.MAX_VALUE, Integer.MIN_VALUE}) {
            refused("days " + n, z -> z.days(n), -1);
        }
    }

    private static void undo() {
        Doc.promise(15, "The last thing done (buy, sell, plan, days) is undone: true;");
        ExcuseMarket x = Markets.fresh();
        x.buy(0);
        x.plan(0, 0);
        x.days(3);
        x.sell(0);
        Check.due("things", x.count(12), 4);
        Check.due("sell", x.undo(), true);
        Check.due("has", x.count(7), 1);
        Check.due("COINS", x.count(5), 20);
        Check.due("days", x.undo(), true);
        Check.due("day", x.count(4), 0);
        Check.due("HOURS", x.count(6), 0);
        Check.due("TRUST", x.man(0, 0), 50);
        Check.due("told", x.told(0, 0, false), 0);
        Check.due("over", x.count(8) + x.count(9) + x.count(10), 0);
        Check.due("still planned", x.duty(0, 3), 0);
        Check.due("plan", x.undo(), true);
        Check.due("not planned", x.duty(0, 3), -2);
        Check.due("buy", x.undo(), true);
        Check.due("COINS", x.count(5), 31);
        Twins.alike("all undone", x, Markets.fresh());
        x = Markets.fresh();
        x.buy(1);
        x.hold(0);
        x.say(1, 2, 3, 4);
        x.know(0, 0, 1);
        x.feed(0, 0, 0, 0, 0);
        Check.due("undo", x.undo(), true);
        Check.due("no other things than those", x.count(15) * 1000 + x.count(13) * 100 + x.count(14) * 10 + x.count(11) / 20, 1111);
        Doc.promise(15, "false: there is none (the last 40 can be).");
        Check.due("none", x.undo(), false);
        for (int done : new int[] {39, 40, 41, 45, 90}) {
            x = Markets.fresh();
            for (int i = 1; i <= done; i++) {
                x.days(1);
                Check.due("things", x.count(12), Math.min(i, 40));
            }
            for (int i = 1; i <= Math.min(done, 40); i++) {
                Check.due("undo " + i + " of " + done, x.undo(), true);
                Check.due("day", x.count(4), done - i);
            }
            Check.due("the last 40 of " + done, x.undo(), false);
            Check.due("day", x.count(4), Math.max(0, done - 40));
            Check.due("things", x.count(12), 0);
            x.buy(0);
            Check.due("one more", x.undo(), true);
        }
    }

    private static void callsOfOneObject() {
        Doc.about("An object is used for at most 512 calls after it has been made;");
        ExcuseMarket x = new ExcuseMarket();
        for (int call = 1; call <= 511; call++) {
            Check.due("call " + call, x.days(60), 60 * call);
        }
        Check.due("call 512", x.count(4), 30660);
        x = new ExcuseMarket();
        Check.type(x, "excuse e 1 1 1 1;");
        x.read();
        for (int call = 4; call <= 510; call += 2) {
            Check.due("call " + call, x.buy(0), 49);
            Check.due("call " + (call + 1), x.undo(), true);
        }
        Check.due("call 512", x.count(12), 0);
    }
}
