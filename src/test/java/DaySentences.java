/** The terms' part II: a DAY, and what is done by hand. */
final class DaySentences {
    private DaySentences() {
    }

    static void all() {
        dutyByDuty();
        lessThanPasses();
        caught();
        once();
        without();
        mends();
        bought();
        sold();
        planned();
        goBy();
    }

    private static ExcuseMarket owner(String text, int excuses) {
        ExcuseMarket x = Check.reader(text);
        for (int excuse = 0; excuse < excuses; excuse++) {
            x.buy(excuse);
        }
        return x;
    }

    private static void dutyByDuty() {
        Doc.term("A DAY: DUTY by DUTY that is on it: if an EXCUSE is planned for it, and one has it yet: it is told:");
        String text = "man a 90 0;excuse e 1 99 1 1;excuse f 1 99 1 1;duty d a 1 1;duty g a 1 1;duty h a 0 1;duty i a 2 1;"
            + "passes = 100;wears = wear * 10 + hours + 1;";
        ExcuseMarket x = owner(text, 2);
        for (int duty = 0; duty < 4; duty++) {
            x.plan(duty, 0);
        }
        int[] free = {4, 7, 15};
        int[] trust = {88, 54, 22};
        for (int day = 0; day < 3; day++) {
            x.days(1);
            Check.due("FREE by day " + day, x.count(8), free[day]);
            Check.due("TRUST by day " + day, x.man(0, 0), trust[day]);
        }
        x.days(1);
        Check.due("no DUTY again", x.man(0, 0), 22);
        x = owner(text, 2);
        x.plan(0, 0);
        x.plan(1, 1);
        x.sell(0);
        x.days(3);
        Check.due("planned, but one has it not", x.duty(0, 4), 3);
        Check.due("it was not told", x.told(0, 0, false), 0);
        Check.due("planned, and one has it", x.duty(1, 4), 1);
        Check.due("not planned", x.duty(3, 4), 3);
    }

    private static void lessThanPasses() {
        Doc.term("if LOT 100 of 16 * the day and 1 and the DUTY's number is less than PASSES, the DUTY is FREE, TRUST is WEARS less;");
        // LOT 100 of seed 7 for DUTIES 0 to 8, worked out by another program
        int[][] lots = {{68, 48, 0, 20, 57, 12, 7, 87, 6}, {21, 9, 83, 87, 54, 65, 42, 42, 62}};
        for (int day = 0; day < 2; day++) {
            for (int duty = 0; duty < 9; duty++) {
                for (int more = 0; more < 2; more++) {
                    ExcuseMarket x = owner("man a 50 0;excuse e 1 99 1 1;seed 7;wears = 7;passes = " + (lots[day][duty] + more) + ";"
                        + TextSentences.many("duty d? a " + day + " 3;", 9), 1);
                    x.plan(duty, 0);
                    x.days(2);
                    Check.due("DUTY " + duty + " on day " + day, x.duty(duty, 4), 2 - more);
                    Check.due("TRUST", x.man(0, 0), more == 1 ? 43 : 36);
                    Check.due("HOURS", x.count(6), more == 1 ? 24 : 27);
                }
            }
        }
    }

    private static void caught() {
        Doc.term("else it is CAUGHT, TRUST is twice as much less (0 at least), and HOURS are spent;");
        int[][] rows = {{99, 45, 9}, {90, 45, 0}, {91, 45, 1}, {89, 45, 0}, {99, 99, 0}, {0, 1, 0}, {50, 0, 50}};
        for (int[] row : rows) {
            ExcuseMarket x = owner("man b 40 0;man a " + row[0] + " 0;excuse e 1 99 1 1;passes = 0;wears = " + row[1] + ";"
                + "duty d a 0 5;duty f a 0 4;", 1);
            x.plan(0, 0);
            x.days(1);
            Check.due("CAUGHT", x.count(9), 1);
            Check.due("TRUST " + row[0] + ", WEARS " + row[1], x.man(1, 0), row[2]);
            Check.due("of the other one", x.man(0, 0), 40);
            Check.due("HOURS of both", x.count(6), 9);
        }
        ExcuseMarket x = owner("man a 50 0;excuse e 1 99 1 1;passes = 0;wears = 1;duty d a 0 5;duty f a 0 4;duty g a 1 9;", 1);
        for (int duty = 0; duty < 3; duty++) {
            x.plan(duty, 0);
        }
        x.days(2);
        Check.due("HOURS of all", x.count(6), 18);
        x = owner("man a 9 3;excuse e 1 99 1 1;passes = 100;wears = 10;duty d a 0 5;", 1);
        x.plan(0, 0);
        x.days(1);
        Check.due("FREE, 0 at least, then mended", x.man(0, 0), 3);
        Check.due("FREE spends no HOURS", x.count(6), 0);
    }

    private static void once() {
        Doc.term("one for ONCE is gone then.");
        String text = "man a 50 0;excuse e 10 99 1 1 once;excuse f 1 99 1 1;duty d a 0 5;duty g a 0 2;duty h a 1 1;duty i a 1 1;"
            + "wears = wear * 10 + 1;passes = ";
        for (int passes = 0; passes <= 100; passes += 100) {
            ExcuseMarket x = owner(text + passes + ";", 2);
            x.plan(0, 0);
            x.plan(1, 0);
            x.plan(2, 0);
            x.plan(3, 1);
            x.days(1);
            Check.due("told", x.duty(0, 4), passes == 100 ? 1 : 2);
            Check.due("gone, so DONE", x.duty(1, 4), 3);
            Check.due("gone", x.count(7), 2);
            Check.due("none to sell", x.sell(0), -2);
            Check.due("bought again", x.buy(0), 29);
            x.days(1);
            Check.due("told again by the old plan", x.duty(2, 4), passes == 100 ? 1 : 2);
            Check.due("gone again; the other one stays", x.count(7), 2);
            Check.due("wear goes on", x.man(0, 0), passes == 100 ? 50 - 1 - 11 - 1 : 50 - 2 * 13);
        }
        ExcuseMarket x = owner("man a 50 0;" + TextSentences.many("excuse e? 1 99 1 1 once;",
            7) + TextSentences.many("duty d? a 0 1;", 7), 7);
        for (int excuse = 6; excuse > 0; excuse--) {
            x.plan(excuse, excuse);
            Check.due("planned", x.planned(1, 2), excuse);
        }
        x.days(1);
        Check.due("all but the one that was not told", x.count(7), 1);
    }

    private static void without() {
        Doc.term("Without: it is DONE, HOURS are spent.");
        ExcuseMarket x = owner("man a 50 0;excuse e 10 99 1 1;duty d a 0 1;duty g a 0 9;duty h a 1 5;passes = 100;", 1);
        x.days(1);
        Check.due("DONE", x.count(10), 3);
        Check.due("HOURS", x.count(6), 10);
        x.days(1);
        Check.due("DONE", x.count(10), 7);
        Check.due("HOURS", x.count(6), 15);
        Check.due("TRUST stays", x.man(0, 0), 50);
        Check.due("nothing told", x.man(0, 3) + x.excuse(0, 5), 0);
    }

    private static void mends() {
        Doc.term("Then TRUST of all is MENDS more (99 at most); it is the next day.");
        ExcuseMarket x = Check.reader("man a 0 9;man b 90 9;man c 91 9;man d 98 1;man e 50 0;");
        int[][] due = {{0, 90, 91, 98, 50}, {9, 99, 99, 99, 50}, {18, 99, 99, 99, 50}};
        for (int day = 0; day < 3; day++) {
            Check.due("day", x.count(4), day);
            for (int man = 0; man < 5; man++) {
                Check.due("TRUST of " + man + " on day " + day, x.man(man, 0), due[day][man]);
            }
            x.days(1);
        }
        x = owner("man a 97 9;excuse e 1 99 1 1;duty d a 0 1;passes = 100;wears = 5;", 1);
        x.plan(0, 0);
        x.days(1);
        Check.due("less, then more", x.man(0, 0), 99);
        x = owner("man a 0 1;excuse e 1 99 1 1;duty d a 0 1;passes = 100;wears = 5;", 1);
        x.plan(0, 0);
        x.days(1);
        Check.due("0 at least, then more", x.man(0, 0), 1);
    }

    private static void bought() {
        Doc.term("By hand: an EXCUSE is BOUGHT (one of each at most);");
        ExcuseMarket x = Check.reader("excuse e 20 1 1 1;excuse f 15 1 1 1;coins 50;");
        Check.due("buy", x.buy(0), 30);
        Check.due("one of each", x.buy(0), -2);
        Check.due("of each one", x.buy(1), 15);
        Check.due("one of each", x.buy(1), -2);
        Check.due("both", x.count(7), 3);
        Check.due("COINS", x.count(5), 15);
    }

    private static void sold() {
        Doc.term("SOLD again for half its PRICE, rounded down;");
        int[][] rows = {{0, 99}, {1, 98}, {2, 98}, {3, 97}, {10, 94}, {11, 93}, {98, 50}, {99, 49}};
        for (int[] row : rows) {
            ExcuseMarket x = owner("excuse e " + row[0] + " 1 1 1;coins 99;", 1);
            Check.due("PRICE " + row[0], x.sell(0), row[1]);
            Check.due("gone", x.count(7), 0);
            Check.due("again", x.buy(0), row[1] < row[0] ? -2 : row[1] - row[0]);
        }
    }

    private static void planned() {
        Doc.term("PLANNED for a DUTY that is yet to come (today's, too), or the plan is taken back;");
        ExcuseMarket x = owner("man a 50 0;excuse e 1 99 1 1;duty d a 0 1;duty f a 2 1;duty g a 9 1;passes = 100;", 1);
        Check.due("today's", x.plan(0, 0), true);
        Check.due("taken back", x.plan(0, -1), true);
        Check.due("today's", x.plan(0, 0), true);
        x.days(2);
        Check.due("of one that is over", x.plan(0, -1), false);
        Check.due("today's again", x.plan(1, 0), true);
        Check.due("one yet to come", x.plan(2, 0), true);
        x.days(1);
        Check.due("taken back of yesterday's", x.plan(1, -1), false);
        Check.due("taken back", x.plan(2, -1), true);
        x.days(60);
        Check.due("each", x.count(8) * 10 + x.count(10), 34);
    }

    private static void goBy() {
        Doc.term("DAYS go by.");
        ExcuseMarket x = Check.reader("man a 50 0;duty d a 1 1;duty f a 4 2;");
        Check.due("one", x.days(1), 1);
        Check.due("four more", x.days(4), 5);
        Check.due("those between, too", x.count(10), 3);
        Check.due("sixty more", x.days(60), 65);
        Check.due("HOURS", x.count(6), 3);
    }
}
