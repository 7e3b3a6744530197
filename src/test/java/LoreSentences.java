/** The terms' parts III and IV: TWO THINGS, RUMOUR, APART, SELLERS and CALM; what is SAID and KNOWN. */
final class LoreSentences {
    private LoreSentences() {
    }

    static void all() {
        twoThings();
        rumour();
        apart();
        sellers();
        rests();
        calm();
        said();
        span();
        known();
        fits();
    }

    private static void pairs(String what, ExcuseMarket x, int... due) {
        Check.due(what, x.two(-1), due.length);
        for (int i = 0; i < due.length; i++) {
            Check.due(what + " " + i, x.two(i), due[i]);
        }
        Check.due(what + ", no more", x.two(due.length), -1);
    }

    private static void twoThings() {
        Doc.term("TWO THINGS: pairs of MEN who KNOW each other and were told different KINDS on one day, so far.");
        ExcuseMarket x = AheadSentences.owner("man a 90 0;man b 90 0;man c 90 0;man d 90 0;knows d c;knows a b;knows c a;"
            + "excuse e 1 99 1 1;excuse f 1 99 2 1;excuse g 1 99 1 1;"
            + "duty da a 1 1;duty db b 1 1;duty dc c 1 1;duty dd d 1 1;duty de d 2 1;duty df a 2 1;duty dg a 2 1;duty dh c 2 1;"
            + "passes = (hours - 1) * 100;", 0, 1, 2);
        x.plan(0, 0);
        x.plan(1, 1);
        x.plan(2, 2);
        x.plan(3, 1);
        pairs("not yet", x);
        x.days(2);
        Check.due("all are CAUGHT", x.count(9), 15);
        pairs("a and b, c and d; a and d know each other not, a and c heard one KIND", x, 1, 23);
        x.plan(5, 0);
        x.plan(6, 1);
        x.days(1);
        pairs("told another one to himself", x, 1, 23);
        x.undo();
        x.plan(7, 0);
        x.days(1);
        pairs("one of his two", x, 1, 2, 23);
        x.undo();
        x.undo();
        x.plan(4, 1);
        x.plan(7, 1);
        x.plan(5, -1);
        x.plan(6, -1);
        x.days(1);
        pairs("on other days, of one KIND", x, 1, 23);
        twoThingsOfTwo();
    }

    private static void twoThingsOfTwo() {
        String men = "man a 90 0;man b 90 0;knows b a;excuse e 1 99 1 1;excuse f 1 99 2 1;";
        ExcuseMarket x = AheadSentences.owner(men + "duty da a 1 1;duty db b 2 1;duty dc b 1 1;passes=100;", 0, 1);
        x.plan(0, 0);
        x.plan(1, 1);
        x.days(3);
        pairs("not on one day", x);
        x.undo();
        x.plan(2, 1);
        x.sell(1);
        x.days(3);
        pairs("planned, but not told", x);
        x.undo();
        x.undo();
        x.days(3);
        pairs("both FREE", x, 1);
        x.days(60);
        pairs("long ago", x, 1);
        x = AheadSentences.owner(men + "duty da b 1 1;duty db a 1 1;passes=100;", 0, 1);
        x.plan(0, 0);
        x.plan(1, 1);
        x.days(1);
        pairs("on the day itself they are still to come", x);
        x.days(1);
        pairs("the other one's DUTY stands first", x, 1);
    }

    private static void rumour() {
        Doc.term("RUMOUR from a MAN: MEN to whom it comes, from one who KNOWS another one to him, in n rounds (0 .. 9);");
        ExcuseMarket x = Check.reader("man a 1 1;man b 1 1;man c 1 1;man d 1 1;man e 1 1;knows a b;knows c b;knows c d;");
        int[][] due = {{1, 3, 7, 15, 15}, {2, 7, 15, 15}, {4, 14, 15}, {8, 12, 14, 15}, {16, 16}};
        for (int man = 0; man < 5; man++) {
            for (int n = 0; n < due[man].length; n++) {
                Check.due("RUMOUR from " + man + " in " + n, x.rumour(man, n), due[man][n]);
            }
            Check.due("RUMOUR from " + man + " in 9", x.rumour(man, 9), man == 4 ? 16 : 15);
        }
        ExcuseMarket chain = Check.reader("man a 1 1;man b 1 1;man c 1 1;man d 1 1;man e 1 1;knows a b;knows c b;knows c d;knows e d;");
        Check.due("a chain, not to its end", chain.rumour(0, 3), 15);
        Check.due("a chain, to its end", chain.rumour(0, 4), 31);
        Doc.term("how many rounds till nobody more hears it.");
        int[] rounds = {3, 2, 2, 3, 0};
        for (int man = 0; man < 5; man++) {
            Check.due("rounds from " + man, x.rumour(man, -1), rounds[man]);
        }
        Check.due("a chain from its end", chain.rumour(0, -1), 4);
        Check.due("a chain from its middle", chain.rumour(2, -1), 2);
        Check.due("one alone", Check.reader("man a 1 1;").rumour(0, -1), 0);
    }

    private static void tests(String text, int many, int which) {
        ExcuseMarket x = Check.reader(text);
        Check.due("how many of " + text, x.apart(0), many);
        Check.due("which of " + text, x.apart(1), which);
    }

    private static void apart() {
        Doc.term("APART: the fewest TESTS so that each two EXCUSES differ in whether one of them rings;");
        String four = "excuse a 1 1 1 1;excuse b 1 1 1 1;excuse c 1 1 1 1;excuse d 1 1 1 1;";
        tests("", 0, 0);
        tests("test t;test s;", 0, 0);
        tests("excuse a 1 1 1 1;test t a;", 0, 0);
        tests("excuse a 1 1 1 1;excuse b 1 1 1 1;", -2, -2);
        tests("excuse a 1 1 1 1;excuse b 1 1 1 1;test t a b;", -2, -2);
        tests("excuse a 1 1 1 1;excuse b 1 1 1 1;test t a b;test s;", -2, -2);
        tests("excuse a 1 1 1 1;excuse b 1 1 1 1;test t a b;test s b;", 1, 2);
        tests(four + "test p a;test q b;test r c;", 3, 7);
        tests(four + "test p a;test q b;", -2, -2);
        tests(four + "test p a;test q b;test r c;test s a b;test t c a;", 2, 24);
        tests(four + "test p a;test q a b;test r a b c;test s b c;test t b;test u d;", 2, 10);
        tests(four + "excuse e 1 1 1 1;excuse f 1 1 1 1;excuse g 1 1 1 1;test p a;test q b;test r c;test s d;test t e;test u f;", 6, 63);
        tests(four + "excuse e 1 1 1 1;excuse f 1 1 1 1;excuse g 1 1 1 1;test p a;test q b;test r c;test s d;test t e;", -2, -2);
        Doc.term("of alike ones the least bits.");
        tests("excuse a 1 1 1 1;excuse b 1 1 1 1;test t a;test s b;test r a;", 1, 1);
        tests("excuse a 1 1 1 1;excuse b 1 1 1 1;test t a b;test s b;test r a;", 1, 2);
        tests(four + "test p a b;test q a c;test r b c;test s a b;", 2, 3);
        tests(four + "test p;test q a c;test r b c;test s a b;", 2, 6);
    }

    private static void rests(int n, int m, int c, int b, int... due) {
        ExcuseMarket x = new ExcuseMarket();
        String what = "sellers " + n + " " + m + " " + c + " " + b;
        Check.due(what, x.sellers(n, m, c, b, -1), due.length);
        for (int i = 0; i < due.length; i++) {
            Check.due(what + " " + i, x.sellers(n, m, c, b, i), due[i]);
        }
        Check.due(what + ", no more", x.sellers(n, m, c, b, due.length), -1);
    }

    private static void sellers() {
        Doc.term("SELLERS, 2 or 3 of them, one EXCUSE each that costs them c (0 .. 9), b buyers (0 .. 99), each asks 0 .. m (m 0 .. 6): "
            + "those with the least price share all buyers (each rounded down), gain what they ask less c by that; the others nothing:");
        rests(2, 0, 0, 10, 0);
        rests(3, 0, 9, 99, 0);
        rests(2, 1, 0, 10, 0, 8);
        // at 2 and 2 each gains 10; asking 1 he gains 10: no more
        rests(2, 2, 0, 10, 0, 8, 16);
        // 9 buyers: 4 each, so that 8 are gained at 2 and 2, and 9 by asking 1
        rests(2, 2, 0, 9, 0, 8);
        // 1 buyer shared by two is none for each
        rests(2, 1, 0, 1, 0, 1, 7, 8);
        rests(2, 2, 0, 1, 0, 1, 7, 8, 9, 15);
        // of three, 9 buyers: 3 each; the others at 0 leave nothing to gain
        rests(3, 1, 0, 9, 0, 1, 7, 49, 57);
        // below the cost nobody wants to be the least one: at 3 each gains 0, too
        rests(2, 3, 3, 10, 24);
        rests(2, 3, 2, 10, 16, 24);
        // all lose by what they ask: only the dearest price of all rests
        rests(2, 1, 5, 10, 8);
        rests(2, 6, 9, 10, 48);
        rests(3, 6, 9, 99, 342);
        // at 6 and 6 each gains 99 / 2 * 6 = 294; asking 5 he gains 495
        ExcuseMarket x = new ExcuseMarket();
        Check.due("none but the least of 99 buyers", x.sellers(2, 6, 0, 99, x.sellers(2, 6, 0, 99, -1) - 1), 8);
        Check.due("of no buyers all rest", x.sellers(3, 6, 9, 0, -1), 343);
    }

    private static void rests() {
        Doc.term("RESTS: rows of prices by which nobody, by himself, asking something else, gained more.");
        rests(2, 1, 0, 0, 0, 1, 7, 8);
        // 4 buyers, a cost of 1: at 2 and 2 each gains 2, alone at 1 none; at 3 and 3 each gains 4, alone at 2 four: no more
        rests(2, 3, 1, 4, 8, 16, 24);
        // 5 buyers: at 3 and 3 each gains 4, alone at 2 five
        rests(2, 3, 1, 5, 8, 16);
        // of three with 6 buyers at no cost: at 2 each gains 4, alone at 1 six
        rests(3, 2, 0, 6, 0, 1, 2, 7, 14, 49, 57, 98);
    }

    private static void calm() {
        Doc.term("CALM: the first day (today to 99) on which the LAW lets an EXCUSE pass with a MAN with p (0 .. 100) or more,");
        String men = "man a 50 2;man b 10 0;excuse e 1 20 1 10;excuse f 1 99 1 10;duty d a 0 5;";
        ExcuseMarket x = Check.reader(men + "passes = trust;wears = 30;");
        int[][] due = {{0, 0, 50, 0}, {0, 0, 51, 1}, {0, 0, 52, 1}, {0, 0, 53, 2}, {0, 0, 90, 20}, {0, 0, 91, -2}, {1, 0, 91,
            21}, {1, 0, 98, 24},
            {1, 0, 99, 25}, {1, 0, 100, -2}, {1, 1, 10, 0}, {1, 1, 11, -2}, {0, 0, 0, 0}};
        for (int[] row : due) {
            Check.due("CALM of " + row[0] + " with " + row[1] + " by " + row[2], x.calm(row[0], row[1], row[2]), row[3]);
        }
        x.days(30);
        Check.due("beyond GOOD nothing passes", x.calm(0, 0, 1), -2);
        Check.due("nor need it, with p 0", x.calm(0, 0, 0), 30);
        Check.due("today", x.calm(1, 0, 99), 30);
        x.days(60);
        x.days(9);
        Check.due("today is day 99", x.calm(1, 0, 99), 99);
        Check.due("today is day 99", x.calm(1, 0, 100), -2);
        x.days(1);
        Check.due("today is beyond 99", x.calm(1, 0, 0), -2);
        x = Check.reader("man a 50 0;excuse e 1 99 1 1;passes = day + 1;");
        Check.due("the last day, with 100", x.calm(0, 0, 100), 99);
        x = Check.reader("man a 50 0;excuse e 1 99 1 1;passes = day;");
        Check.due("no day, with 100", x.calm(0, 0, 100), -2);
        Check.due("the last day, with 99", x.calm(0, 0, 99), 99);
        calmWithoutMore();
        calmByDays();
    }

    private static void calmWithoutMore() {
        Doc.term("told for a DUTY of 1 HOUR, nothing more told till then, heard 0,");
        ExcuseMarket x = Check.reader("man a 50 0;excuse e 1 99 1 10;duty d a 0 9;passes = hours * 10;");
        Check.due("1 HOUR", x.calm(0, 0, 10), 0);
        Check.due("1 HOUR", x.calm(0, 0, 11), -2);
        x = AheadSentences.owner("man a 50 0;man b 50 0;knows a b;excuse e 1 99 1 10;excuse f 1 99 2 10;duty d a 0 9;"
            + "duty g b 1 1;duty h b 2 1;"
            + "passes = if day < 1 then 100 else 50 + day - wear * 9 - heard * 5;wears = 0;", 0, 1);
        x.plan(0, 0);
        x.plan(1, 1);
        x.plan(2, 1);
        x.days(1);
        Check.due("told once so far", x.calm(0, 0, 42), 1);
        Check.due("heard 0", x.calm(0, 0, 43), 2);
        x = AheadSentences.owner("man a 50 0;excuse e 1 99 1 10;duty d a 1 9;passes = trust + day;wears = 30;", 0);
        x.plan(0, 0);
        Check.due("what is planned is not told", x.calm(0, 0, 52), 2);
        x = AheadSentences.owner("man a 50 0;excuse e 1 99 1 10;duty d a 0 1;passes = if day < 1 then 100 else ago;wears = 0;", 0);
        Check.due("never told", x.calm(0, 0, 99), 0);
        x.plan(0, 0);
        x.days(1);
        Check.due("1 day after", x.calm(0, 0, 1), 1);
        Check.due("40 days after", x.calm(0, 0, 40), 40);
        Check.due("99 days after", x.calm(0, 0, 99), 99);
    }

    private static void calmByDays() {
        Doc.term("MENDS and RAIN by days (whether one has it or not).");
        // LOT 100 of seed 7: 45 on day 0, 96, 87, then 38 on day 3
        ExcuseMarket x = Check.reader("man a 50 0;excuse e 1 99 1 10;passes = wet * 50;rain 39;seed 7;");
        Check.due("the first wet day", x.calm(0, 0, 1), 3);
        x = Check.reader("man a 50 0;excuse e 1 99 1 10;passes = wet * 50;rain 46;seed 7;");
        Check.due("today is wet", x.calm(0, 0, 50), 0);
        x.days(1);
        Check.due("the next wet day", x.calm(0, 0, 50), 3);
        x = Check.reader("man a 0 9;man b 98 9;excuse e 1 99 1 10;passes = trust;");
        Check.due("9 a day", x.calm(0, 0, 28), 4);
        Check.due("99 at most", x.calm(0, 1, 99), 1);
        Check.due("99 at most", x.calm(0, 1, 100), -2);
        x.buy(0);
        Check.due("one has it", x.calm(0, 0, 28), 4);
    }

    private static void said() {
        Doc.term("SAID of a KIND: that its aunt was then between two ages (0 .. 120) on a day, 20 at most, numbered from 0 on;"
            + " by k: the first k.");
        ExcuseMarket x = new ExcuseMarket();
        for (int i = 0; i < 20; i++) {
            Check.due("number", x.say(i % 10, i, 100 + i, 0), i);
        }
        Check.due("a 21st", x.say(1, 1, 1, 1), -1);
        Check.due("20", x.count(13), 20);
        int[][] due = {{0, 0, 0, 120}, {0, 1, 0, 100}, {3, 3, 0, 120}, {3, 4, 3, 103}, {3, 13, 3, 103}, {3, 14, 13, 103}, {9,
            19, 9, 109}, {9, 20, 19, 109}};
        for (int[] row : due) {
            Check.due("least of " + row[0] + " by " + row[1], x.span(row[0], row[1], 0), row[2]);
            Check.due("greatest of " + row[0] + " by " + row[1], x.span(row[0], row[1], 1), row[3]);
        }
        x = new ExcuseMarket();
        x.say(1, 0, 0, 0);
        x.say(2, 120, 120, 0);
        x.say(3, 7, 7, 0);
        Check.due("between them, themselves too", x.span(1, 3, 0) * 1000 + x.span(1, 3, 1), 0);
        Check.due("between them, themselves too", x.span(2, 3, 0) * 1000 + x.span(2, 3, 1), 120120);
        Check.due("between them, themselves too", x.span(3, 3, 0) * 1000 + x.span(3, 3, 1), 7007);
    }

    /** SPAN of one that was SAID. */
    private static void one(int least, int most, int day, int from, int to) {
        ExcuseMarket x = new ExcuseMarket();
        x.say(5, least, most, day);
        String what = least + " to " + most + " on day " + day;
        Check.due("least by " + what, x.span(5, 1, 0), from);
        Check.due("greatest by " + what, x.span(5, 1, 1), to);
    }

    private static void span() {
        Doc.term("AGE on day 0, 365 days a year (whole years that go by since then are taken off):");
        one(50, 60, 0, 50, 60);
        one(50, 60, 364, 50, 60);
        one(50, 60, 365, 49, 59);
        one(50, 60, 729, 49, 59);
        one(50, 60, 730, 48, 58);
        one(50, 60, 9999, 23, 33);
        Doc.term("SPAN: the least, the greatest that all that is SAID leaves (0 .. 120).");
        one(0, 120, 0, 0, 120);
        one(0, 120, 365, 0, 119);
        one(5, 120, 9999, 0, 93);
        one(0, 27, 9999, 0, 0);
        one(0, 26, 9999, -2, -2);
        one(120, 120, 0, 120, 120);
        one(120, 120, 9999, 93, 93);
        ExcuseMarket x = new ExcuseMarket();
        x.say(2, 30, 40, 0);
        x.say(3, 99, 99, 0);
        x.say(2, 35, 60, 730);
        x.say(2, 36, 41, 365);
        x.say(2, 40, 41, 0);
        x.say(2, 41, 41, 0);
        int[][] due = {{0, 0, 120}, {1, 30, 40}, {2, 30, 40}, {3, 33, 40}, {4, 35, 40}, {5, 40, 40}, {6, -2, -2}};
        for (int[] row : due) {
            Check.due("least by " + row[0], x.span(2, row[0], 0), row[1]);
            Check.due("greatest by " + row[0], x.span(2, row[0], 1), row[2]);
        }
        Check.due("of another KIND", x.span(3, 6, 0), 99);
        Check.due("of no KIND told", x.span(4, 6, 1), 120);
    }

    private static void known() {
        Doc.term("KNOWN: that an EXCUSE was told to a MAN just so often, of all DUTIES that the text has for him, 20 at most;");
        ExcuseMarket x = Check.reader("man a 1 1;man b 1 1;excuse e 1 1 1 1;excuse f 1 1 1 1;duty d a 0 1;duty g a 9 1;");
        for (int i = 0; i < 20; i++) {
            Check.due("number", x.know(i % 2, i / 2 % 2, i % 10), i);
        }
        Check.due("a 21st", x.know(0, 0, 0), -1);
        Check.due("20", x.count(14), 20);
        x = AheadSentences.owner("man a 1 1;man b 1 1;excuse e 1 1 1 1;excuse f 1 1 1 1;duty d a 0 1;duty g a 9 1;", 0);
        x.plan(0, 0);
        x.days(1);
        int[] due = {4, 4, 1, 0, 0};
        for (int often = 0; often < due.length; often++) {
            x.forget();
            x.know(0, 0, often);
            Check.due("just so often: " + often, x.fits(0, 1), due[often]);
        }
        x.forget();
        x.know(0, 1, 0);
        Check.due("of one without DUTIES", x.fits(1, 1), 1);
        x.know(0, 1, 1);
        Check.due("of one without DUTIES", x.fits(1, 2), 0);
    }

    private static void fits() {
        Doc.term("by k: FITS of a MAN: in how many ways each of his DUTIES may have had one EXCUSE or none, so that all that is KNOWN of him is so.");
        ExcuseMarket x = Check.reader("man a 1 1;man b 1 1;man c 1 1;excuse e 1 1 1 1;excuse f 1 1 1 1;excuse g 1 1 1 1 once;"
            + "duty da a 1 1;duty db a 2 1;duty dc b 3 1;duty dd a 3 1;duty de a 3 1;");
        int[][] known = {{0, 0, 1}, {1, 1, 1}, {1, 0, 2}, {0, 0, 1}, {2, 0, 2}, {2, 2, 1}, {0, 1, 0}, {0, 1, 1}};
        for (int[] row : known) {
            x.know(row[0], row[1], row[2]);
        }
        int[][] due = {{0, 0, 256}, {0, 1, 108}, {0, 2, 108}, {0, 3, 24}, {0, 4, 24}, {0, 5, 0}, {0, 8, 0}, {1, 0, 4}, {1, 1, 4}, {1, 2, 1},
            {1, 7, 1}, {1, 8, 0}, {2, 5, 1}, {2, 6, 0}};
        for (int[] row : due) {
            Check.due("FITS of " + row[0] + " by " + row[1], x.fits(row[0], row[1]), row[2]);
        }
        x.forget();
        x.know(0, 0, 2);
        x.know(0, 0, 1);
        Check.due("one often is not the other one", x.fits(0, 2), 0);
        Check.due("so far", x.fits(0, 1), 54);
        x.forget();
        x.know(0, 0, 2);
        x.know(1, 0, 1);
        x.know(1, 0, 1);
        x.know(0, 0, 2);
        Check.due("KNOWN twice is KNOWN", x.fits(0, 4), 6 * 2 * 2);
        x = Check.reader("man a 1 1;" + TextSentences.many("excuse e? 1 1 1 1;", 7) + TextSentences.many("duty d? a 1 1;", 9));
        Check.due("the most ways: 8 by 8, nine times", x.fits(0, 0), 134217728);
        x.know(3, 0, 9);
        Check.due("all nine", x.fits(0, 1), 1);
        x.know(4, 0, 0);
        Check.due("and none", x.fits(0, 2), 1);
        x.forget();
        for (int excuse = 0; excuse < 7; excuse++) {
            x.know(excuse, 0, 1);
        }
        Check.due("seven of nine, in any order", x.fits(0, 7), 181440);
        Check.due("six of nine, the others with the seventh or none", x.fits(0, 6), 60480 * 8);
        Check.due("no DUTIES, no EXCUSES", Check.reader("man a 1 1;").fits(0, 0), 1);
    }
}
