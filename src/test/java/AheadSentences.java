import java.util.function.ToIntFunction;

/** The terms' part III: what would be BY THE PLAN, in a YEAR, and what is to BUY. */
final class AheadSentences {
    private AheadSentences() {
    }

    static void all() {
        nothingHappens();
        byThePlan();
        year();
        setOfDuties();
        anotherOrTheSame();
        byDaysThenNumbers();
        inAnyOrder();
        wearAndTrust();
        heardAndRain();
        nothingElseIsTold();
        passesEachTime();
        onceJustOnce();
        leastCoins();
        alikeOnes();
    }

    static ExcuseMarket owner(String text, int... excuses) {
        ExcuseMarket x = Check.reader(text);
        for (int excuse : excuses) {
            x.buy(excuse);
        }
        return x;
    }

    /** BUY of a set with p: the COINS, then the EXCUSES. */
    static void shop(ExcuseMarket x, int set, int p, int... due) {
        Check.due("cheapest " + set + " " + p, x.cheapest(set, p), due[0]);
        for (int i = 1; i < due.length; i++) {
            Check.due("cheapestAt " + set + " " + p + " " + (i - 1), x.cheapestAt(set, p, i - 1), due[i]);
        }
    }

    private static void nothingHappens() {
        Doc.term("What would be (nothing happens).");
        ExcuseMarket asked = Markets.rich();
        int[] due = {asked.planned(30, 3), asked.trust(0, 30), asked.year(30, 20), asked.cheapest(12, 50), asked.cheapestAt(12, 50, 1),
            asked.two(-1), asked.rumour(0, 9), asked.apart(1), asked.sellers(3, 6, 0, 99, -1), asked.calm(0, 1, 100), asked.pass(0, 2)};
        for (int i = 0; i < due.length; i++) {
            int call = i;
            ToIntFunction<ExcuseMarket> ask = x -> switch (call) {
                case 0 -> x.planned(30, 3);
                case 1 -> x.trust(0, 30);
                case 2 -> x.year(30, 20);
                case 3 -> x.cheapest(12, 50);
                case 4 -> x.cheapestAt(12, 50, 1);
                case 5 -> x.two(-1);
                case 6 -> x.rumour(0, 9);
                case 7 -> x.apart(1);
                case 8 -> x.sellers(3, 6, 0, 99, -1);
                case 9 -> x.calm(0, 1, 100);
                default -> x.pass(0, 2);
            };
            Twins.leaves("asked " + call, Markets::rich, ask, due[i]);
        }
    }

    private static void byThePlan() {
        Doc.term("BY THE PLAN, in n DAYS (0 .. 30): how many DUTIES are FREE, CAUGHT, DONE more, HOURS spent more, TRUST of a MAN.");
        ExcuseMarket x = owner("man a 50 2;man b 50 3;excuse e 1 99 3 99;excuse x 1 99 3 0;"
            + "duty d a 0 4;duty f b 1 5;duty g a 2 6;duty h a 2 7;duty i b 30 8;passes = strong * 2;wears = 5;", 0, 1);
        x.plan(0, 0);
        x.plan(1, 1);
        x.plan(2, 0);
        int[][] due = {{0, 0, 0, 0, 0}, {1, 1, 0, 0, 0}, {2, 1, 1, 0, 5}, {3, 2, 1, 1, 12}, {30, 2, 1, 1, 12}};
        for (int[] row : due) {
            for (int what = 0; what < 4; what++) {
                Check.due("planned " + row[0] + " " + what, x.planned(row[0], what), row[1 + what]);
            }
        }
        Check.due("TRUST now", x.trust(0, 0), 50);
        Check.due("TRUST of a in 1", x.trust(0, 1), 47);
        Check.due("TRUST of a in 3", x.trust(0, 3), 46);
        Check.due("TRUST of b in 2", x.trust(1, 2), 46);
        Check.due("TRUST of b in 30", x.trust(1, 30), 99);
        x.days(1);
        Check.due("FREE more", x.planned(2, 0), 1);
        Check.due("CAUGHT more", x.planned(2, 1), 1);
        Check.due("HOURS more", x.planned(2, 3), 12);
        Check.due("DONE on day 30, in 29", x.planned(29, 2), 1);
        Check.due("DONE on day 30, in 30", x.planned(30, 2), 2);
        Check.due("HOURS on day 30", x.planned(30, 3), 20);
        x.days(2);
        Check.due("none more", x.planned(5, 0) + x.planned(5, 1) + x.planned(5, 2) + x.planned(5, 3), 0);
    }

    /** LOT 100 on day 0 for DUTY 0: 68 of seed 7, 47 of 8, 67 of 9, 53 of 10; for RAIN on day 0: 45, 77, 54. */
    private static void year() {
        Doc.term("YEAR by s SEEDS (1 .. 20) from the text's SEED on: how many more are FREE in n DAYS, in all of them together.");
        int[][] due = {{47, 0, 0, 0, 0}, {48, 0, 1, 1, 1}, {53, 0, 1, 1, 1}, {54, 0, 1, 1, 2}, {67, 0, 1, 1, 2}, {68, 0, 1, 2,
            3}, {69, 1, 2, 3, 4}};
        for (int[] row : due) {
            ExcuseMarket x = owner("man a 50 2;excuse e 1 99 3 60;duty d a 0 4;passes = " + row[0] + ";seed 7;", 0);
            Check.due("not planned", x.year(9, 4), 0);
            x.plan(0, 0);
            for (int s = 1; s <= 4; s++) {
                Check.due("PASSES " + row[0] + ", seeds " + s, x.year(1, s), row[s]);
            }
            Check.due("in no DAYS", x.year(0, 4), 0);
        }
        ExcuseMarket x = owner("man a 50 2;excuse e 1 99 3 60;duty d a 0 4;passes = 100 * wet;seed 7;rain 54;", 0);
        x.plan(0, 0);
        int[] wet = {1, 1, 1};
        for (int s = 1; s <= 3; s++) {
            Check.due("RAIN by its own seed", x.year(1, s), wet[s - 1]);
        }
        x = owner("man a 50 2;excuse e 1 99 3 60;duty d a 0 4;passes = 100 * wet;seed 7;rain 55;", 0);
        x.plan(0, 0);
        Check.due("RAIN by its own seed", x.year(1, 3), 2);
        x = owner("man a 50 2;excuse e 1 99 3 60;duty d a 0 4;duty f a 30 4;duty g a 5 4;passes = 100;seed 9999;", 0);
        for (int duty = 0; duty < 3; duty++) {
            x.plan(duty, 0);
        }
        Check.due("beyond the last SEED of a text", x.year(30, 20), 40);
        Check.due("in 5 DAYS", x.year(5, 20), 20);
        Check.due("in 6 DAYS", x.year(6, 20), 40);
        x.days(1);
        Check.due("more than are FREE", x.year(29, 20), 20);
        Check.due("more than are FREE", x.year(30, 20), 40);
    }

    private static void setOfDuties() {
        Doc.term("BUY for a set of DUTIES yet to come, 3 at most, with p (0 .. 100):");
        ExcuseMarket x = Check.reader("man a 50 0;excuse e 4 99 1 100;".replace("100",
            "99") + TextSentences.many("duty d? a 1 1;", 9) + "passes = strong + 1;");
        for (int set = 0; set < 512; set += 7) {
            int many = Integer.bitCount(set);
            Check.due("set " + set, x.cheapest(set, 0), many == 0 || many > 3 ? -1 : 4);
        }
        shop(x, 256, 100, 4, 0);
        shop(x, 1 + 16 + 256, 100, 4, 0, 0, 0);
        x.days(1);
        shop(x, 1 + 16 + 256, 100, 4, 0, 0, 0);
        x.days(1);
        shop(x, 1, 0, -2, -2);
    }

    private static void anotherOrTheSame() {
        Doc.term("for each of them another or the same EXCUSE,");
        ExcuseMarket x = Check.reader("man a 50 0;excuse e 4 99 1 1;excuse f 5 99 1 2;duty da a 1 1;duty db a 2 2;duty dc a 3 1;"
            + "passes = if strong * 2 < hours * 3 then 0 else 9;");
        shop(x, 1, 9, 5, 1);
        shop(x, 2, 9, -2, -2);
        x = Check.reader("man a 50 0;excuse e 4 99 1 1;excuse f 5 99 1 2;excuse g 7 99 1 3;duty da a 1 1;duty db a 2 2;duty dc a 3 3;"
            + "passes = 10 - (strong - hours) * (strong - hours);");
        shop(x, 7, 10, 16, 0, 1, 2);
        shop(x, 7, 9, 5, 1, 1, 1);
        shop(x, 3, 9, 4, 0, 0);
        shop(x, 5, 10, 11, 0, 2);
        shop(x, 6, 9, 5, 1, 1);
        shop(x, 7, 6, 4, 0, 0, 0);
    }

    private static void byDaysThenNumbers() {
        Doc.term("told on its day (by days, then by numbers, as if each PASSED:");
        ExcuseMarket x = Check.reader("man a 50 0;excuse e 5 99 1 0;duty da a 1 5;duty db a 1 9;passes = hours * 10 - wear * 20;"
            + "wears = 0;");
        shop(x, 3, 50, 5, 0, 0);
        shop(x, 3, 51, -2, -2, -2);
        x = Check.reader("man a 50 0;excuse e 5 99 1 0;duty da a 1 9;duty db a 1 5;passes = hours * 10 - wear * 20;wears = 0;");
        shop(x, 3, 30, 5, 0, 0);
        shop(x, 3, 31, -2, -2, -2);
        // of three: on day 2 with 9 HOURS, on day 1 with 7, on day 2 with 5
        x = Check.reader("man a 50 0;excuse e 5 99 1 0;duty da a 2 9;duty db a 1 7;duty dc a 2 5;passes = hours * 10 - wear * wear * 10;");
        shop(x, 7, 10, 5, 0, 0, 0);
        shop(x, 7, 11, -2, -2, -2);
        x = Check.reader("man a 50 0;excuse e 5 99 1 0;duty da a 3 9;duty db a 2 6;duty dc a 1 5;passes = hours * 10 - wear * wear * 10;");
        shop(x, 7, 50, 5, 0, 0, 0);
        shop(x, 7, 51, -2, -2, -2);
        x = Check.reader("man a 50 0;excuse e 5 99 1 0;duty da a 7 4;passes = day * 10 + hours;");
        shop(x, 1, 74, 5, 0);
        shop(x, 1, 75, -2, -2);
    }

    /** HOURS tell the DUTIES apart, and wear how many were told ahead: p can be less by how far each is from its number. */
    private static void inAnyOrder() {
        Doc.term("told on its day (by days, then by numbers,");
        for (int code = 0; code < 27; code++) {
            int[] days = {1 + code / 9, 1 + code / 3 % 3, 1 + code % 3};
            int far = 0;
            for (int duty = 0; duty < 3; duty++) {
                int ahead = 0;
                for (int other = 0; other < 3; other++) {
                    ahead += days[other] < days[duty] || days[other] == days[duty] && other < duty ? 1 : 0;
                }
                far = Math.max(far, Math.abs(ahead - duty));
            }
            ExcuseMarket x = Check.reader("man a 50 0;excuse e 5 99 1 0;duty da a " + days[0] + " 1;duty db a " + days[1] + " 2;"
                + "duty dc a " + days[2]
                + " 3;passes = 50 - (hours - wear - 1) * (hours - wear - 1);wears = 0;");
            shop(x, 7, 50 - far * far, 5, 0, 0, 0);
            shop(x, 7, 51 - far * far, -2, -2, -2, -2);
        }
    }

    private static void wearAndTrust() {
        Doc.term("wear, TRUST less by WEARS, MENDS day by day,");
        // told first db on day 1, then da on day 4, when TRUST is 30 less and has mended by 3 * 2
        String men = "man a 50 2;excuse e 5 99 1 0;excuse f 6 99 1 0;excuse g 70 99 1 60;duty da a 4 1;duty db a 1 1;";
        ExcuseMarket x = Check.reader(men + "passes = trust + strong;wears = 30;");
        shop(x, 1, 58, 5, 0);
        shop(x, 1, 59, 70, 2);
        shop(x, 2, 52, 5, 0);
        shop(x, 2, 53, 70, 2);
        shop(x, 3, 28, 5, 0, 0);
        shop(x, 3, 29, 70, 2, 2);
        shop(x, 3, 53, 70, 2, 2);
        // 0 at least, then mended by 6; 99 at most, then 30 less and mended by 9
        x = Check.reader(men + "passes = trust + strong;wears = 60;");
        shop(x, 3, 6, 5, 0, 0);
        shop(x, 3, 7, 70, 2, 2);
        x = Check.reader("man a 98 9;excuse e 5 99 1 0;duty da a 2 1;duty db a 1 1;passes = trust;wears = 30;");
        shop(x, 3, 78, 5, 0, 0);
        shop(x, 3, 79, -2, -2, -2);
        x = Check.reader("man a 50 0;man b 50 0;excuse e 5 99 1 0;excuse f 6 99 1 0;duty da a 4 1;duty db a 1 1;duty dc b 2 1;"
            + "passes = 60 - wear * 20;wears = 0;");
        shop(x, 3, 40, 5, 0, 0);
        shop(x, 3, 41, 11, 0, 1);
        shop(x, 5, 60, 5, 0, 0);
        x = Check.reader("man a 50 0;excuse e 5 99 1 0;duty da a 4 1;duty db a 1 1;passes = ago;wears = 0;");
        shop(x, 3, 3, 5, 0, 0);
        shop(x, 3, 4, -2, -2, -2);
        x = Check.reader("man a 50 0;excuse e 5 99 1 0;duty da a 1 3;duty db a 2 1;passes = trust;wears = hours * 10;");
        shop(x, 3, 20, 5, 0, 0);
        shop(x, 3, 21, -2, -2, -2);
        // WEARS as things are ahead of it: 1 + 10 * wear
        x = Check.reader("man a 50 0;excuse e 5 99 1 0;duty da a 1 1;duty db a 1 1;duty dc a 1 1;passes = trust;wears = 1 + 10 * wear;");
        shop(x, 7, 38, 5, 0, 0, 0);
        shop(x, 7, 39, -2, -2, -2, -2);
    }

    private static void heardAndRain() {
        Doc.term("RAIN as it will be,");
        // LOT 100 of seed 7: 45 on day 0, 96 on day 1, 38 on day 3
        ExcuseMarket x = Check.reader("man a 50 0;excuse e 1 99 1 10;duty da a 0 1;duty db a 1 1;duty dc a 3 1;"
            + "passes = wet * 50;rain 45;seed 7;");
        shop(x, 1, 50, -2, -2);
        shop(x, 2, 50, -2, -2);
        shop(x, 4, 50, 1, 0);
        x = Check.reader("man a 50 0;man b 50 0;knows a b;excuse e 5 99 1 10;excuse f 1 99 2 20;"
            + "duty da a 1 1;duty db b 1 1;passes = strong - heard * 5;wears = 0;");
        shop(x, 3, 10, 1, 1, 1);
        shop(x, 1, 20, 1, 1);
        x = Check.reader("man a 50 0;man b 50 0;knows a b;excuse e 1 99 1 10;excuse f 1 99 2 10;"
            + "duty da a 1 1;duty db b 1 1;passes = 50 + heard * (kind - 1);wears = 0;");
        shop(x, 3, 50, 1, 0, 0);
        shop(x, 3, 51, -2, -2, -2);
        x = Check.reader("man a 50 0;man b 50 0;knows a b;excuse e 1 99 1 10;excuse f 2 99 2 10;"
            + "duty da a 1 1;duty db b 1 1;passes = 50 - hours + heard + (2 - hours) * (kind - 1);wears = 0;");
        shop(x, 3, 50, 2, 1, 1);
    }

    private static void nothingElseIsTold() {
        Doc.term("nothing else told to anybody),");
        String text = "man a 50 0;man b 50 0;knows a b;excuse e 5 99 1 0;excuse f 6 99 2 0;duty da a 2 1;duty db a 1 1;duty dc b 2 1;";
        ExcuseMarket x = owner(text + "passes = trust - wear * 9 - heard * 3;wears = 30;", 0, 1);
        shop(x, 1, 50, 0, 0);
        x.plan(1, 0);
        x.plan(2, 1);
        shop(x, 1, 50, 0, 0);
        x.plan(0, 1);
        shop(x, 1, 50, 0, 0);
        // what was told so far counts
        x = owner("man a 50 0;excuse e 5 99 1 0;excuse f 6 99 1 0;duty da a 0 1;duty db a 1 1;duty dc a 2 1;duty dd a 3 1;"
            + "passes = 60 - wear * 20;wears = 0;", 0);
        x.plan(0, 0);
        x.days(1);
        shop(x, 6, 20, 0, 0, 0);
        shop(x, 6, 21, 6, 0, 1);
        shop(x, 14, 20, 6, 0, 0, 1);
        shop(x, 14, 0, 0, 0, 0, 0);
    }

    private static void passesEachTime() {
        Doc.term("so that PASSES is p or more each time,");
        ExcuseMarket x = Check.reader("man a 50 0;man b 20 5;excuse e 40 99 1 90;excuse f 9 3 2 60;excuse g 3 99 3 30;"
            + "duty da a 4 1;duty db a 1 1;duty dc b 2 1;duty dd b 9 1;passes = strong;wears = 0;coins 5;");
        shop(x, 2, 60, 9, 1);
        shop(x, 2, 61, 40, 0);
        shop(x, 2, 30, 3, 2);
        shop(x, 2, 31, 9, 1);
        shop(x, 2, 90, 40, 0);
        shop(x, 2, 91, -2, -2);
        shop(x, 2, 100, -2, -2);
        shop(x, 1, 60, 40, 0);
        shop(x, 1, 0, 3, 2);
        shop(x, 3, 60, 40, 0, 0);
        shop(x, 6, 60, 9, 1, 1);
        shop(x, 11, 31, 40, 0, 0, 0);
        // GOOD till day 3: told on day 3, not on day 4
        x = Check.reader("man a 50 0;excuse f 9 3 2 60;duty da a 3 1;duty db a 4 1;passes = strong;");
        shop(x, 1, 60, 9, 0);
        shop(x, 2, 1, -2, -2);
        shop(x, 2, 0, 9, 0);
        shop(x, 3, 1, -2, -2, -2);
    }

    private static void onceJustOnce() {
        Doc.term("one for ONCE just once:");
        String text = "man a 50 0;man b 50 0;excuse e 1 99 1 0 once;excuse f 10 99 1 0;excuse g 2 99 1 0 once;"
            + "duty da a 4 1;duty db a 1 1;duty dc b 2 1;passes = 100;";
        ExcuseMarket x = Check.reader(text);
        shop(x, 1, 100, 1, 0);
        shop(x, 3, 100, 3, 0, 2);
        shop(x, 5, 100, 3, 0, 2);
        shop(x, 7, 100, 10, 1, 1, 1);
        x = owner(text, 0, 2);
        shop(x, 3, 100, 0, 0, 2);
        shop(x, 7, 100, 10, 0, 1, 1);
        x = Check.reader("man a 50 0;excuse e 1 99 1 0 once;duty da a 4 1;duty db a 1 1;passes = 100;");
        shop(x, 1, 0, 1, 0);
        shop(x, 3, 0, -2, -2, -2);
    }

    private static void leastCoins() {
        Doc.term("the least COINS for those that one has not;");
        String text = "man a 50 0;excuse e 40 99 1 90;excuse f 9 99 2 60;excuse g 3 99 3 30;duty da a 4 1;duty db a 1 1;"
            + "passes = if hours < 2 then strong - wear * 30 else 0;wears = 0;";
        ExcuseMarket x = Check.reader(text + "coins 12;");
        shop(x, 3, 30, 9, 1, 1);
        shop(x, 3, 60, 40, 0, 0);
        shop(x, 3, 61, -2, -2, -2);
        shop(x, 1, 30, 3, 2);
        x.buy(1);
        shop(x, 3, 30, 0, 1, 1);
        shop(x, 3, 60, 40, 0, 0);
        shop(x, 1, 61, 40, 0);
        x.buy(2);
        Check.due("no COINS are left", x.count(5), 0);
        shop(x, 1, 61, 40, 0);
        shop(x, 1, 30, 0, 1);
        x = owner(text + "coins 99;", 0);
        shop(x, 3, 60, 0, 0, 0);
        shop(x, 3, 0, 0, 0, 0);
        x.sell(0);
        shop(x, 3, 60, 40, 0, 0);
        x = Check.reader("man a 50 0;excuse e 40 99 1 1;excuse f 9 99 2 2;excuse g 3 99 3 3;duty da a 4 1;duty db a 1 2;duty dc a 2 3;"
            + "passes = 50 - (strong - hours) * (strong - hours);");
        shop(x, 7, 50, 52, 0, 1, 2);
        x = owner("man a 50 0;excuse e 0 99 1 1;excuse f 9 99 2 2;duty da a 4 1;passes = strong;", 1);
        shop(x, 1, 1, 0, 0);
        shop(x, 1, 2, 0, 1);
    }

    private static void alikeOnes() {
        Doc.term("of alike ones the first by the first DUTY's EXCUSE, then the next one's.");
        // da comes later than db, and yet stands first in the set
        ExcuseMarket x = Check.reader("man a 50 0;excuse e 1 99 1 0 once;excuse f 1 99 1 0 once;duty da a 4 1;duty db a 1 1;passes = 100;");
        shop(x, 3, 100, 2, 0, 1);
        x = Check.reader("man a 50 0;excuse e 1 99 1 0 once;excuse f 1 99 1 0 once;excuse g 1 99 1 0 once;"
            + "duty da a 4 1;duty db a 1 1;duty dc a 2 1;passes = 100;");
        shop(x, 7, 100, 3, 0, 1, 2);
        x = Check.reader("man a 50 0;excuse e 4 99 1 0;excuse f 2 99 1 0;excuse g 2 99 1 0;duty da a 4 1;duty db a 1 1;passes = 100;");
        shop(x, 3, 100, 2, 1, 1);
        x.buy(2);
        shop(x, 3, 100, 0, 2, 2);
        x.buy(0);
        shop(x, 3, 100, 0, 0, 0);
        // da with the second is alike db with the second: the first DUTY's lesser EXCUSE goes ahead
        x = Check.reader("man a 50 0;excuse e 5 99 1 1;excuse f 5 99 2 1;duty da a 2 1;duty db a 1 1;passes = 50 - wear * 20;wears = 0;");
        shop(x, 3, 50, 10, 0, 1);
        shop(x, 3, 30, 5, 0, 0);
    }
}
