/** Promises 22 to 25 and 27 to 31: two things, rumours, tests, sellers, aunts, and what is KNOWN. */
public final class LoreTest {
    public static void main(String[] args) {
        two();
        rumour();
        apart();
        sellers();
        say();
        span();
        know();
        fits();
        forget();
        Check.end("LoreTest");
    }

    private static void pairs(String what, ExcuseMarket x, int... due) {
        Check.due(what, x.two(-1), due.length);
        for (int i = 0; i < due.length; i++) {
            Check.due(what + " " + i, x.two(i), due[i]);
        }
        Check.due(what, x.two(due.length), -1);
        Check.due(what, x.two(-2), -1);
        Check.due(what, x.two(Integer.MIN_VALUE), -1);
        Check.due(what, x.two(Integer.MAX_VALUE), -1);
    }

    private static void two() {
        ExcuseMarket x = Check.reader("man a 90 0;man b 90 0;man c 90 0;man d 90 0;knows d c;knows a b;knows c a;"
            + "excuse e 1 99 1 1;excuse f 1 99 2 1;excuse g 1 99 1 1;"
            + "duty da a 1 1;duty db b 1 1;duty dc c 1 1;duty dd d 1 1;duty de d 2 1;duty df a 2 1;duty dg a 2 1;duty dh c 2 1;"
            + "passes = (hours - 1) * 100;");
        for (int e = 0; e < 3; e++) {
            x.buy(e);
        }
        x.plan(0, 0);
        x.plan(1, 1);
        x.plan(2, 2);
        x.plan(3, 1);
        pairs("not yet", x);
        x.days(2);
        Check.due("all are caught", x.count(9), 15);
        pairs("a and b, c and d; a and d know each other not, a and c heard one kind", x, 1, 23);
        x.plan(5, 0);
        x.plan(6, 1);
        x.days(1);
        pairs("told another one to himself", x, 1, 23);
        x.undo();
        x.plan(7, 0);
        x.days(1);
        pairs("one of his two", x, 1, 2, 23);
        x.undo();
        x.undo();
        x.plan(4, 1);
        x.plan(7, 1);
        x.plan(5, -1);
        x.plan(6, -1);
        x.days(1);
        pairs("on other days, of one kind", x, 1, 23);
        x = Check.reader("man a 90 0;man b 90 0;knows b a;excuse e 1 99 1 1;excuse f 1 99 2 1;duty da a 1 1;duty db b 2 1;duty dc b 1 1;passes=100;");
        x.buy(0);
        x.buy(1);
        x.plan(0, 0);
        x.plan(1, 1);
        x.days(3);
        pairs("not on one day", x);
        x.undo();
        x.plan(2, 1);
        x.sell(1);
        x.days(3);
        pairs("planned, but not told", x);
        x.undo();
        x.undo();
        x.days(3);
        pairs("both free", x, 1);
        x = Check.reader("man a 90 0;man b 90 0;knows b a;excuse e 1 99 1 1;excuse f 1 99 2 1;duty da b 1 1;duty db a 1 1;passes=100;");
        x.buy(0);
        x.buy(1);
        x.plan(0, 0);
        x.plan(1, 1);
        x.days(2);
        pairs("the other one's DUTY stands first", x, 1);
    }

    private static void rumour() {
        ExcuseMarket x = Check.reader("man a 1 1;man b 1 1;man c 1 1;man d 1 1;man e 1 1;knows a b;knows c b;knows c d;");
        int[][] due = {{1, 3, 7, 15, 15}, {2, 7, 15, 15}, {4, 14, 15}, {8, 12, 14, 15}, {16, 16}};
        int[] rounds = {3, 2, 2, 3, 0};
        for (int man = 0; man < 5; man++) {
            for (int n = 0; n < due[man].length; n++) {
                Check.due("rumour " + man + " " + n, x.rumour(man, n), due[man][n]);
            }
            Check.due("rumour 9 of " + man, x.rumour(man, 9), man == 4 ? 16 : 15);
            Check.due("rounds of " + man, x.rumour(man, -1), rounds[man]);
            Check.due("no such rounds", x.rumour(man, 10), -1);
            Check.due("no such rounds", x.rumour(man, -2), -1);
        }
        Check.due("no such man", x.rumour(5, 1), -1);
        Check.due("no such man", x.rumour(-1, -1), -1);
        x = Check.reader("man a 1 1;man b 1 1;man c 1 1;man d 1 1;man e 1 1;knows a b;knows c b;knows c d;knows e d;");
        Check.due("a chain", x.rumour(0, -1), 4);
        Check.due("a chain", x.rumour(0, 4), 31);
        Check.due("from its middle", x.rumour(2, -1), 2);
    }

    private static void tests(String text, int many, int which) {
        ExcuseMarket x = Check.reader(text);
        Check.due("how many of " + text, x.apart(0), many);
        Check.due("which of " + text, x.apart(1), which);
        Check.due("others", x.apart(2), -1);
        Check.due("others", x.apart(-1), -1);
    }

    private static void apart() {
        String four = "excuse a 1 1 1 1;excuse b 1 1 1 1;excuse c 1 1 1 1;excuse d 1 1 1 1;";
        tests("", 0, 0);
        tests("test t;test s;", 0, 0);
        tests("excuse a 1 1 1 1;test t a;", 0, 0);
        tests("excuse a 1 1 1 1;excuse b 1 1 1 1;", -2, -2);
        tests("excuse a 1 1 1 1;excuse b 1 1 1 1;test t a b;", -2, -2);
        tests("excuse a 1 1 1 1;excuse b 1 1 1 1;test t a b;test s b;test r a;", 1, 2);
        tests(four + "test p a;test q b;test r c;", 3, 7);
        tests(four + "test p a;test q b;test r c;test s a b;test t c a;", 2, 24);
        tests(four + "test p a b;test q a c;test r b c;test s a b;", 2, 3);
        tests(four + "test p a;test q b;", -2, -2);
        tests(four + "test p a;test q a b;test r a b c;test s b c;test t b;test u d;", 2, 10);
        tests(four + "excuse e 1 1 1 1;excuse f 1 1 1 1;excuse g 1 1 1 1;"
            + "test p a;test q b;test r c;test s d;test t e;test u f;", 6, 63);
    }

    private static void rests(int n, int m, int c, int b, int... due) {
        ExcuseMarket x = new ExcuseMarket();
        String what = "sellers " + n + " " + m + " " + c + " " + b;
        Check.due(what, x.sellers(n, m, c, b, -1), due.length);
        for (int i = 0; i < due.length; i++) {
            Check.due(what + " " + i, x.sellers(n, m, c, b, i), due[i]);
        }
        Check.due(what, x.sellers(n, m, c, b, due.length), -1);
    }

    private static void sellers() {
        rests(2, 0, 0, 10, 0);
        rests(2, 1, 0, 10, 0, 8);
        // at 2 and 2 each gains 10; asking 1 he gains 10: no more
        rests(2, 2, 0, 10, 0, 8, 16);
        // 9 buyers: 4 each, so that 8 are gained at 2 and 2, and 9 by asking 1
        rests(2, 2, 0, 9, 0, 8);
        // below the cost nobody wants to be the least one: at 3 each gains 0, too
        rests(2, 3, 3, 10, 24);
        rests(2, 3, 2, 10, 16, 24);
        rests(2, 1, 0, 0, 0, 1, 7, 8);
        // 1 buyer shared by two is none for each
        rests(2, 1, 0, 1, 0, 1, 7, 8);
        rests(2, 2, 0, 1, 0, 1, 7, 8, 9, 15);
        rests(3, 0, 9, 99, 0);
        // of three at 1, 9 buyers: 3 each; the others at 0 leave nothing to gain
        rests(3, 1, 0, 9, 0, 1, 7, 49, 57);
        // all lose by what they ask: only the dearest price of all rests
        rests(2, 1, 5, 10, 8);
        ExcuseMarket x = new ExcuseMarket();
        int[][] wrong = {{1, 0, 0, 0, -1}, {4, 0, 0, 0, -1}, {2, -1, 0, 0, -1}, {2, 7, 0, 0, -1}, {2, 0, -1, 0, -1}, {2, 0, 10, 0, -1},
            {2, 0, 0, -1, -1}, {2, 0, 0, 100, -1}, {2, 0, 0, 0, -2}, {2, 0, 0, 0, 1}, {3, 0, 0, 0, Integer.MAX_VALUE},
            {Integer.MIN_VALUE, 0, 0, 0, 0}, {2, Integer.MAX_VALUE, 0, 0, 0}};
        for (int[] w : wrong) {
            Check.due("no such sellers", x.sellers(w[0], w[1], w[2], w[3], w[4]), -1);
        }
        Check.due("the widest", x.sellers(3, 6, 0, 99, 0), 0);
        Check.due("of no buyers all rest", x.sellers(3, 6, 9, 0, -1), 343);
        Check.due("of no buyers all rest", x.sellers(3, 6, 9, 0, 342), 342);
        Check.due("only the prices up to m", x.sellers(2, 1, 0, 0, 2), 7);
    }

    private static void say() {
        ExcuseMarket x = new ExcuseMarket();
        int[][] wrong = {{-1, 1, 2, 3}, {10, 1, 2, 3}, {1, -1, 2, 3}, {1, 3, 2, 3}, {1, 1, 121, 3}, {1, 121, 121, 3}, {1, 1, 2, -1},
            {1, 1, 2, 10000}};
        for (int[] w : wrong) {
            Check.due("no such", x.say(w[0], w[1], w[2], w[3]), -1);
        }
        Check.due("nothing said", x.count(13), 0);
        for (int i = 0; i < 20; i++) {
            Check.due("say", x.say(i % 10, 0, 120, i % 2 * 9999), i);
        }
        Check.due("20 are there", x.say(1, 1, 1, 1), -1);
        Check.due("20 are there", x.count(13), 20);
        Check.due("of the first age as the other one", new ExcuseMarket().say(9, 120, 120, 9999), 0);
    }

    private static void span() {
        ExcuseMarket x = new ExcuseMarket();
        x.say(2, 30, 40, 0);
        x.say(3, 50, 60, 364);
        x.say(2, 35, 60, 730);
        x.say(3, 50, 55, 365);
        x.say(2, 10, 20, 0);
        x.say(4, 5, 120, 9999);
        x.say(5, 0, 20, 9999);
        x.say(6, 0, 27, 9999);
        x.say(6, 0, 26, 9999);
        x.say(7, 120, 120, 0);
        int[][] due = {{2, 0, 0, 120}, {2, 1, 30, 40}, {2, 2, 30, 40}, {2, 3, 33, 40}, {2, 5, -2, -2}, {3, 2, 50, 60}, {3, 4, 50, 54},
            {4, 6, 0, 93}, {4, 5, 0, 120}, {5, 7, -2, -2}, {6, 8, 0, 0}, {6, 9, -2, -2}, {7, 10, 120, 120}, {0, 10, 0, 120}};
        for (int[] row : due) {
            Check.due("least " + row[0] + " " + row[1], x.span(row[0], row[1], 0), row[2]);
            Check.due("greatest " + row[0] + " " + row[1], x.span(row[0], row[1], 1), row[3]);
        }
        int[][] wrong = {{-1, 0, 0}, {10, 0, 0}, {1, -1, 0}, {1, 11, 0}, {1, 0, 2}, {1, 0, -1}, {2, 11, 0}};
        for (int[] w : wrong) {
            Check.due("no such", x.span(w[0], w[1], w[2]), -1);
        }
    }

    private static void know() {
        ExcuseMarket x = Check.reader("man a 1 1;man b 1 1;excuse e 1 1 1 1;excuse f 1 1 1 1;duty d a 1 1;");
        int[][] wrong = {{-1, 0, 1}, {2, 0, 1}, {0, -1, 1}, {0, 2, 1}, {0, 0, -1}, {0, 0, 10}};
        for (int[] w : wrong) {
            Check.due("no such", x.know(w[0], w[1], w[2]), -1);
        }
        Check.due("nothing known", x.count(14), 0);
        for (int i = 0; i < 20; i++) {
            Check.due("know", x.know(i % 2, i / 2 % 2, i % 10), i);
        }
        Check.due("20 are there", x.know(0, 0, 0), -1);
        Check.due("20 are there", x.count(14), 20);
    }

    private static void fits() {
        ExcuseMarket x = Check.reader("man a 1 1;man b 1 1;man c 1 1;excuse e 1 1 1 1;excuse f 1 1 1 1;excuse g 1 1 1 1 once;"
            + "duty da a 1 1;duty db a 2 1;duty dc b 3 1;duty dd a 3 1;duty de a 3 1;");
        x.know(0, 0, 1);
        x.know(1, 1, 1);
        x.know(1, 0, 2);
        x.know(0, 0, 1);
        x.know(2, 0, 2);
        x.know(2, 2, 1);
        x.know(0, 1, 0);
        x.know(0, 1, 1);
        int[][] due = {{0, 0, 256}, {0, 1, 108}, {0, 2, 108}, {0, 3, 24}, {0, 4, 24}, {0, 5, 0}, {0, 8, 0}, {1, 1, 4}, {1, 2, 1}, {1, 7, 1},
            {1, 8, 0}, {2, 5, 1}, {2, 6, 0}};
        for (int[] row : due) {
            Check.due("fits " + row[0] + " " + row[1], x.fits(row[0], row[1]), row[2]);
        }
        int[][] wrong = {{-1, 0}, {3, 0}, {0, -1}, {0, 9}, {0, Integer.MAX_VALUE}};
        for (int[] w : wrong) {
            Check.due("no such", x.fits(w[0], w[1]), -1);
        }
        x.forget();
        x.know(0, 0, 2);
        x.know(0, 0, 1);
        Check.due("one often is not the other one", x.fits(0, 2), 0);
        Check.due("so far", x.fits(0, 1), 54);
        StringBuilder text = new StringBuilder("man a 1 1;");
        for (char c = 'b'; c < 'i'; c++) {
            text.append("excuse ").append(c).append(" 1 1 1 1;");
        }
        for (char c = 'k'; c < 't'; c++) {
            text.append("duty ").append(c).append(" a 1 1;");
        }
        x = Check.reader(text.toString());
        Check.due("the most ways", x.fits(0, 0), 134217728);
        x.know(3, 0, 9);
        Check.due("all nine", x.fits(0, 1), 1);
        x.know(4, 0, 0);
        Check.due("and none", x.fits(0, 2), 1);
    }

    private static void forget() {
        ExcuseMarket x = Check.reader("man a 1 1;excuse e 1 1 1 1;");
        x.say(1, 1, 1, 1);
        x.say(1, 1, 1, 1);
        x.know(0, 0, 1);
        Check.due("said", x.count(13), 2);
        x.hold(0);
        x.restore(0);
        Check.due("nor does a slot", x.count(13) * 10 + x.count(14), 21);
        Check.due("forget", x.forget(), 3);
        Check.due("forgotten", x.count(13) * 10 + x.count(14), 0);
        Check.due("forget again", x.forget(), 0);
        Check.due("numbers anew", x.say(1, 1, 1, 1), 0);
        Check.due("numbers anew", x.know(0, 0, 1), 0);
        Check.due("no thing to undo", x.undo(), false);
    }
}
