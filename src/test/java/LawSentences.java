/** The terms' part II: RAIN, PASSES and WEARS, what LAWS tell, and LOT. */
final class LawSentences {
    private LawSentences() {
    }

    static void all() {
        rain();
        lot();
        passes();
        good();
        ifs();
        ints();
        dividedByZero();
        things();
        wear();
        ago();
        wet();
        heard();
        wears();
    }

    /** PASSES of the only EXCUSE for the only DUTY, by a LAW. */
    private static void law(String law, int due) {
        ExcuseMarket x = Check.reader("man m 50 1;excuse e 1 99 3 7;duty d m 0 4;rain 100;passes = " + law + ";");
        Check.due(law, x.pass(0, 0), due);
    }

    private static void rain() {
        Doc.term("IT RAINS on a day if LOT 100 of the SEED and 16 * the day is less than RAIN.");
        // of seed 7 on days 0, 1, 2, 3 and 999: 45, 96, 87, 38, 24
        int[] days = {0, 1, 2, 3, 999};
        int[][] due = {{38, 0, 0, 0, 0, 1}, {39, 0, 0, 0, 1, 1}, {45, 0, 0, 0, 1, 1}, {46, 1, 0, 0, 1, 1}, {24, 0, 0, 0, 0, 0},
            {25, 0, 0, 0, 0, 1}, {96, 1, 0, 1, 1, 1}, {97, 1, 1, 1, 1, 1}};
        for (int[] row : due) {
            ExcuseMarket x = Check.reader("seed 7;rain " + row[0] + ";");
            for (int i = 0; i < days.length; i++) {
                Check.due("rain " + row[0] + " on day " + days[i], x.rains(days[i]), row[1 + i]);
            }
        }
        for (int seed : new int[] {0, 7, 9999}) {
            ExcuseMarket never = Check.reader("seed " + seed + ";rain 0;");
            ExcuseMarket always = Check.reader("seed " + seed + ";rain 100;");
            for (int day = 0; day < 200; day++) {
                Check.due("never on day " + day, never.rains(day), 0);
                Check.due("always on day " + day, always.rains(day), 1);
            }
        }
    }

    private static void lot() {
        Doc.term("LOT n of a SEED and a which: h is the SEED; for each of 61, which: h becomes (h and it, each bit of which is in just one) "
            + "times 1103515245 and 12345 more, then h and h moved 15 bits down (zeros come in), likewise; the rest of h, moved 1 bit down "
            + "likewise, by n (32 bits that wrap).");
        // worked out by another program: LOT 100 on days 0 to 20, then on 998 and 999
        int[] seeds = {0, 1, 7, 4242, 9999};
        int[][] lots = {{40, 19, 2, 33, 51, 87, 62, 53, 33, 20, 75, 14, 20, 27, 2, 38, 22, 45, 48, 12, 70, 84, 59},
            {84, 15, 78, 73, 11, 6, 98, 29, 27, 10, 21, 4, 87, 50, 25, 20, 17, 76, 28, 79, 89, 81, 92},
            {45, 96, 87, 38, 96, 79, 90, 50, 40, 55, 42, 45, 99, 51, 90, 37, 78, 41, 48, 80, 54, 69, 24},
            {97, 6, 15, 28, 60, 49, 90, 75, 73, 6, 28, 8, 49, 2, 87, 56, 22, 75, 92, 21, 38, 40, 93},
            {0, 40, 10, 85, 41, 16, 43, 2, 21, 8, 75, 18, 14, 85, 75, 23, 18, 5, 76, 19, 22, 89, 88}};
        for (int s = 0; s < seeds.length; s++) {
            for (int i = 0; i < lots[s].length; i++) {
                int day = i > 20 ? 977 + i : i;
                String text = "seed " + seeds[s] + ";rain ";
                Check.due("LOT of " + seeds[s] + " on " + day, Check.reader(text + lots[s][i] + ";").rains(day), 0);
                Check.due("LOT of " + seeds[s] + " on " + day, Check.reader(text + (lots[s][i] + 1) + ";").rains(day), 1);
            }
        }
    }

    private static void passes() {
        Doc.term("PASSES of an EXCUSE for a DUTY: what the LAW tells, held to 0 .. 100;");
        law("0", 0);
        law("0 - 1", 0);
        law("0 - 9999 * 9999", 0);
        law("1", 1);
        law("99", 99);
        law("100", 100);
        law("101", 100);
        law("9999 * 9999", 100);
        law("1 + 2 * 3", 7);
        law("(1 + 2) * 3", 9);
        law("20 - 5 - 3", 12);
        law("20 - (5 - 3)", 18);
        law("100 / 10 / 5", 2);
        law("100 / 10 * 5", 50);
        law("100 / (10 * 5)", 2);
        law("7 / 2 * 2", 6);
        law("2 * 3 + 4 * 5 - 6 / 2", 23);
        law("((((((5))))))", 5);
        law("1+1*(1+1*(1+1*(1+1*(1+1*(1+1*(1+1*1))))))", 8);
        law("if 1+1*(1+1*(1+1*(1+1*(1+1*(1+1*(1+1*1)))))) < 1+1*(1+1*(1+1*(1+1*(1+1*(1+1*(1+1*2)))))) then 6 else 7", 6);
        law("1+".repeat(49) + "1*1", 50);
    }

    private static void good() {
        Doc.term("0 if the day is beyond GOOD.");
        ExcuseMarket x = Check.reader("man m 50 1;excuse e 1 0 1 1;excuse f 1 2 1 1;excuse g 1 99 1 1;duty d m 9 1;passes = 60;");
        int[][] due = {{60, 60, 60}, {0, 60, 60}, {0, 60, 60}, {0, 0, 60}};
        for (int day = 0; day < 4; day++) {
            for (int excuse = 0; excuse < 3; excuse++) {
                Check.due("day " + day + ", excuse " + excuse, x.pass(excuse, 0), due[day][excuse]);
            }
            x.days(1);
        }
        x.days(60);
        x.days(35);
        Check.due("day 99", x.pass(2, 0), 60);
        x.days(1);
        Check.due("day 100", x.pass(2, 0), 0);
        // LOT 100 of seed 9999 on day 1 is 0 for DUTY 1: it is less than all but 0
        for (int good = 0; good < 2; good++) {
            x = Check.reader("man m 50 0;excuse e 1 " + good + " 1 1;duty c m 0 1;duty d m 1 1;passes = 1;seed 9999;");
            x.buy(0);
            x.plan(1, 0);
            x.days(2);
            Check.due("told on day 1, GOOD till " + good, x.duty(1, 4), good == 1 ? 1 : 2);
        }
    }

    private static void ifs() {
        Doc.term("LAWS: the E of the first if that holds (one less than the other), else the last one;");
        law("if 1 < 2 then 3 else 4", 3);
        law("if 2 < 2 then 3 else 4", 4);
        law("if 3 < 2 then 3 else 4", 4);
        law("if 0 - 1 < 0 then 3 else 4", 3);
        law("if 0 < 0 - 1 then 3 else 4", 4);
        law("if 1 < 2 then 3 else if 1 < 2 then 5 else 6", 3);
        law("if 3 < 2 then 3 else if 1 < 2 then 5 else 6", 5);
        law("if 3 < 2 then 3 else if 2 < 2 then 5 else 6", 6);
        law("if 2 < 1 then 1 else if 2 < 1 then 2 else if 2 < 1 then 3 else if 1 < 2 then 4 else 5", 4);
        law("if 2 < 1 then 1 else if 2 < 1 then 2 else if 2 < 1 then 3 else if 2 < 1 then 4 else 5", 5);
        law("if 1 + 1 < 1 + 2 then 3 * 3 else 4 * 4", 9);
    }

    private static void ints() {
        Doc.term("ints of 32 bits that wrap,");
        // 9999 * 9999 is 99980001; by 43 it is 4299140043, and so 4172747
        law("9999 * 9999 * 43 / 9999 - 400", 17);
        law("if 9999 * 9999 * 21 < 0 then 8 else 9", 9);
        law("if 9999 * 9999 * 22 < 0 then 8 else 9", 8);
        law("if 9999 * 9999 * 21 + 9999 * 9999 < 0 then 8 else 9", 8);
        law("if 0 < 0 - 9999 * 9999 * 21 - 9999 * 9999 then 8 else 9", 8);
        law("if 0 < 0 - 9999 * 9999 * 21 - 9999 then 8 else 9", 9);
        law("if 0 - 8192 * 8192 * 32 < 0 then 8 else 9", 8);
        law("if (0 - 8192 * 8192 * 32) / (0 - 1) < 0 then 8 else 9", 8);
        law("if 8192 * 8192 * 32 - 1 < 0 then 8 else 9", 9);
        law("8192 * 8192 * 64 + 5", 5);
        Doc.term("/ rounded towards 0;");
        law("7 / 2", 3);
        law("7 / 8", 0);
        law("50 + (1 - 8) / 2", 47);
        law("50 + 7 / (0 - 2)", 47);
        law("50 + (0 - 7) / (0 - 2)", 53);
        law("50 + (0 - 7) / 8", 50);
        law("50 + 7 / (0 - 8)", 50);
        law("0 / 5 + 6", 6);
    }

    private static void dividedByZero() {
        Doc.term("a LAW in which something that is looked at is divided by 0 is 0.");
        law("40 + 5 / 0", 0);
        law("5 / 0 + 40", 0);
        law("40 + 0 * (5 / (3 - kind))", 0);
        law("40 + 0 / 0", 0);
        law("40 + 9 / (1 / 2)", 0);
        law("if 5 / 0 < 1 then 3 else 4", 0);
        law("if 1 < 5 / 0 then 3 else 4", 0);
        law("if 1 < 2 then 5 / 0 else 4", 0);
        law("if 2 < 1 then 3 else 5 / 0", 0);
        law("if 2 < 1 then 3 else if 5 / 0 < 1 then 3 else 4", 0);
        law("if 1 < 2 then 3 else 5 / 0", 3);
        law("if 2 < 1 then 5 / 0 else 4", 4);
        law("if 1 < 2 then 3 else if 5 / 0 < 1 then 3 else 4", 3);
        law("if 2 < 1 then 5 / 0 else if 1 < 2 then 6 else 5 / 0", 6);
        ExcuseMarket x = Check.reader("man m 50 0;excuse e 1 99 3 7;duty d m 0 4;passes = 100;wears = 20 / wear;");
        x.buy(0);
        x.plan(0, 0);
        Check.due("WEARS of it", x.trust(0, 1), 50);
    }

    private static void things() {
        Doc.term("day; strong, kind: the EXCUSE's;");
        law("strong", 7);
        law("kind", 3);
        law("day", 0);
        ExcuseMarket x = Check.reader("man m 50 2;man n 9 0;excuse e 1 99 9 99;excuse f 1 99 0 0;duty d m 8 1;duty g n 8 9;"
            + "passes = if kind < 1 then strong + day else kind * 10 + day;");
        Check.due("of the first", x.pass(0, 0), 90);
        Check.due("of the second", x.pass(1, 0), 0);
        x.days(7);
        Check.due("of the first on day 7", x.pass(0, 0), 97);
        Check.due("of the second on day 7", x.pass(1, 0), 7);
        Check.due("STRONG 99", Check.reader("man m 5 2;excuse e 1 99 9 99;duty d m 8 1;passes = strong;").pass(0, 0), 99);
        Doc.term("trust: his;");
        law("trust", 50);
        x = Check.reader("man m 0 2;man n 99 0;excuse e 1 99 9 99;duty d m 8 1;duty g n 8 9;passes = trust;");
        Check.due("of m", x.pass(0, 0), 0);
        Check.due("of n", x.pass(0, 1), 99);
        x.days(3);
        Check.due("of m, mended", x.pass(0, 0), 6);
        Doc.term("hours: the DUTY's;");
        law("hours", 4);
        x = Check.reader("man m 0 2;excuse e 1 99 9 99;duty d m 8 1;duty g m 8 9;passes = hours;");
        Check.due("1", x.pass(0, 0), 1);
        Check.due("9", x.pass(0, 1), 9);
    }

    /** Two EXCUSES, two MEN, four DUTIES of the first days; PASSES 100 on them, by another law after. */
    private static ExcuseMarket gone(String law, int days) {
        ExcuseMarket x = Check.reader("man a 80 0;man b 60 0;excuse e 1 99 3 7;excuse f 1 99 4 9;duty d a 0 4;duty g a 2 5;duty h b 2 6;"
            + "duty i a 9 8;duty j b 9 9;wears = 0;passes = if day < 3 then 100 * (1 - day / 2) else " + law + ";");
        x.buy(0);
        x.plan(0, 0);
        x.plan(1, 0);
        x.days(days);
        return x;
    }

    private static void wear() {
        Doc.term("wear: how often it was told to this MAN;");
        law("wear", 0);
        ExcuseMarket x = gone("wear", 3);
        Check.due("one FREE, one CAUGHT", x.count(8) * 10 + x.count(9), 12);
        Check.due("told twice", x.pass(0, 3), 2);
        Check.due("of the other EXCUSE", x.pass(1, 3), 0);
        Check.due("to the other MAN", x.pass(0, 4), 0);
        Check.due("of the other one to the other", x.pass(1, 4), 0);
    }

    private static void ago() {
        Doc.term("ago: days since it was told to him last (99: never);");
        law("ago", 99);
        ExcuseMarket x = gone("ago", 3);
        Check.due("the last time was on day 2", x.pass(0, 3), 1);
        Check.due("never of the other EXCUSE", x.pass(1, 3), 99);
        Check.due("never to the other MAN", x.pass(0, 4), 99);
        x.days(60);
        Check.due("61 days", x.pass(0, 3), 61);
        x.days(36);
        Check.due("97 days", x.pass(0, 3), 97);
        x = Check.reader("man a 80 0;excuse e 1 99 3 7;duty d a 0 4;duty g a 0 5;passes = 100;wears = if ago < 1 then 7 else 1;");
        x.buy(0);
        x.plan(0, 0);
        x.plan(1, 0);
        x.days(1);
        Check.due("0 on the same day, 99 ahead of it", x.man(0, 0), 72);
        x = Check.reader("man a 80 0;excuse e 1 99 3 7;duty d a 0 4;passes = ago;wears = 0;");
        x.buy(0);
        x.plan(0, 0);
        x.days(60);
        x.days(39);
        Check.due("99 days ago, and told", x.pass(0, 0), 99);
        x = Check.reader("man a 80 0;excuse e 1 99 3 7;duty d a 0 4;duty f a 99 1;passes = 100;wears = ago - 90;");
        x.buy(0);
        x.plan(0, 0);
        x.plan(1, 0);
        x.days(60);
        x.days(40);
        Check.due("9 lost when never told, 9 when 99 days ago", x.man(0, 0), 62);
    }

    private static void wet() {
        Doc.term("wet: 1 if IT RAINS, else 0;");
        law("wet", 1);
        // LOT 100 of seed 7: 45 on day 0, 96 on day 1
        for (int rain = 45; rain <= 46; rain++) {
            ExcuseMarket x = Check.reader("man m 5 5;excuse e 1 9 1 1;duty d m 0 1;passes = wet + 4;seed 7;rain " + rain + ";");
            Check.due("day 0, rain " + rain, x.pass(0, 0), rain == 46 ? 5 : 4);
            x.days(1);
            Check.due("day 1, rain " + rain, x.pass(0, 0), 4);
        }
    }

    /** TRUST that d loses by 3 * heard + 1, when plans are made for a, b, c and him: a and b KNOW him. */
    private static void heard() {
        Doc.term("heard: how many MEN who KNOW him were told another KIND this day.");
        law("heard", 0);
        int[][] plans = {{0, 0, 0, 0}, {1, 0, 0, 0}, {1, 1, 1, 0}, {0, 0, 0, 1}, {2, 1, 1, 0}, {-1, 1, 1, 0}, {0, 2, 1, 2}};
        int[] lost = {1, 4, 7, 7, 4, 4, 1};
        for (int passes = 0; passes <= 100; passes += 100) {
            for (int i = 0; i < plans.length; i++) {
                ExcuseMarket x = Check.reader("man a 90 0;man b 90 0;man c 90 0;man d 90 0;knows a d;knows d b;"
                    + "excuse e 1 99 1 1;excuse f 1 99 2 1;excuse g 1 99 1 2;duty da a 1 1;duty db b 1 1;duty dc c 1 1;duty dd d 1 1;"
                    + "passes = " + passes + ";wears = heard * 3 + 1;");
                for (int e = 0; e < 3; e++) {
                    x.buy(e);
                }
                for (int d = 0; d < 4; d++) {
                    x.plan(d, plans[i][d]);
                }
                int times = passes == 0 ? 2 : 1;
                Check.due("heard by d " + i, 90 - x.trust(3, 2), times * lost[i]);
                Check.due("a hears none, for d is told later " + i, 90 - x.trust(0, 2), plans[i][0] < 0 ? 0 : times);
            }
        }
        ExcuseMarket x = Check.reader("man a 90 0;man d 90 0;knows a d;excuse e 1 99 1 1;excuse f 1 99 2 1;"
            + "duty da a 1 1;duty db a 1 1;duty dd d 1 1;duty de d 2 1;duty df a 0 1;passes = 100;wears = heard * 3 + 1;");
        x.buy(0);
        x.buy(1);
        x.plan(0, 0);
        x.plan(1, 1);
        x.plan(2, 1);
        Check.due("one man who was told both counts once", x.trust(1, 2), 86);
        x.plan(2, -1);
        x.plan(3, 0);
        Check.due("not of the day before", x.trust(1, 3), 89);
        x = Check.reader("man a 90 0;excuse e 1 99 1 1;excuse f 1 99 2 1;duty da a 1 1;duty db a 1 1;passes = 100;wears = heard * 3 + 1;");
        x.buy(0);
        x.buy(1);
        x.plan(0, 0);
        x.plan(1, 1);
        Check.due("not of what he was told himself", x.trust(0, 2), 88);
    }

    /** TRUST after one telling. */
    private static int after(String trust, String passes, String wears) {
        ExcuseMarket x = Check.reader("man a " + trust + " 0;excuse e 1 0 1 1;duty d a 0 5;passes = " + passes + ";wears = " + wears + ";");
        x.buy(0);
        x.plan(0, 0);
        return x.trust(0, 1);
    }

    private static void wears() {
        Doc.term("WEARS likewise, held to 0 .. 99, as things are ahead of it.");
        Check.due("0", after("50", "100", "0"), 50);
        Check.due("below 0", after("50", "100", "0 - 5"), 50);
        Check.due("below 0, and CAUGHT", after("50", "0", "0 - 5"), 50);
        Check.due("98", after("99", "100", "98"), 1);
        Check.due("99", after("99", "100", "99"), 0);
        Check.due("beyond 99", after("99", "100", "9999"), 0);
        Check.due("if", after("99", "100", "if trust < 99 then 7 else if 98 < trust then 3 else 4"), 96);
        Check.due("hours", after("99", "100", "hours"), 94);
        Check.due("not told ahead of it", after("50", "100", "wear * 9 + 100 - ago"), 49);
        Check.due("his TRUST ahead of it", after("50", "100", "trust / 2"), 25);
        Check.due("CAUGHT: his TRUST ahead of it", after("50", "0", "trust / 5"), 30);
        // LAWS likewise, but of what is beyond GOOD alone PASSES is 0
        ExcuseMarket x = Check.reader("man a 80 0;excuse e 1 0 1 1;passes = 100;wears = 7;duty d a 1 5;");
        x.buy(0);
        x.plan(0, 0);
        x.days(2);
        Check.due("beyond GOOD it is CAUGHT", x.duty(0, 4), 2);
        Check.due("beyond GOOD its LAW tells WEARS", x.man(0, 0), 66);
    }
}
