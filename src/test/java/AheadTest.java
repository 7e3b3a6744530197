/** Promises 16 to 21 and 26, and the LAWS: what would be. */
public final class AheadTest {
    public static void main(String[] args) {
        lawsOfNumbers();
        lawsThatDivide();
        lawsOfThings();
        heard();
        pass();
        byThePlan();
        year();
        cheapest();
        cheapestWears();
        cheapestOnce();
        cheapestAlike();
        cheapestHeardAndRain();
        calm();
        Check.end("AheadTest");
    }

    /** PASSES of the only EXCUSE for the only DUTY, by a LAW. */
    private static void law(String law, int due) {
        ExcuseMarket x = Check.reader("man m 50 1;excuse e 1 99 3 7;duty d m 0 4;rain 100;passes = " + law + ";");
        Check.due(law, x.pass(0, 0), due);
    }

    private static void lawsOfNumbers() {
        law("1 + 2 * 3", 7);
        law("(1 + 2) * 3", 9);
        law("20 - 5 - 3", 12);
        law("20 - (5 - 3)", 18);
        law("100 / 10 / 5", 2);
        law("100 / 10 * 5", 50);
        law("7 * 7 / 10", 4);
        law("7 / 2 * 2", 6);
        law("50 + (1 - 8) / 2", 47);
        law("101", 100);
        law("9999", 100);
        law("1 - 2", 0);
        law("((((((5))))))", 5);
        law("1+1*(1+1*(1+1*(1+1*(1+1*(1+1*(1+1*1))))))", 8);
        law("if 1+1*(1+1*(1+1*(1+1*(1+1*(1+1*(1+1*1)))))) < 1+1*(1+1*(1+1*(1+1*(1+1*(1+1*(1+1*2)))))) then 6 else 7", 6);
        law("if 1 < 2 then 3 else 4", 3);
        law("if 2 < 2 then 3 else 4", 4);
        law("if 3 < 2 then 3 else if 1 < 2 then 5 else 6", 5);
        law("if 1 < 2 then 3 else if 1 < 2 then 5 else 6", 3);
        law("if 2 < 1 then 1 else if 2 < 1 then 2 else if 2 < 1 then 3 else if 2 < 1 then 4 else 5", 5);
        law("if 2 < 1 then 1 else if 2 < 1 then 2 else if 2 < 1 then 3 else if 1 < 2 then 4 else 5", 4);
        law("if 0 - 1 < 0 then 3 else 4", 3);
        // 32 bits that wrap: 9999 * 9999 is 99980001; by 43 it is 4299140043, and so 4172747
        law("9999 * 9999 * 43 / 9999 - 400", 17);
        law("if 9999 * 9999 * 22 < 0 then 8 else 9", 8);
        law("if 9999 * 9999 * 21 + 9999 * 9999 < 0 then 8 else 9", 8);
        law("if 0 - 9999 * 9999 * 22 < 0 then 8 else 9", 9);
        // the least int by -1 wraps to itself
        law("if (0 - 8192 * 8192 * 32) / (0 - 1) < 0 then 8 else 9", 8);
    }

    private static void lawsThatDivide() {
        law("40 + 5 / 0", 0);
        law("40 + 0 * (5 / (3 - kind))", 0);
        law("if 5 / 0 < 1 then 3 else 4", 0);
        law("if 1 < 5 / 0 then 3 else 4", 0);
        law("if 1 < 2 then 3 else 5 / 0", 3);
        law("if 2 < 1 then 5 / 0 else 4", 4);
        law("if 1 < 2 then 3 else if 5 / 0 < 1 then 3 else 4", 3);
        law("if 2 < 1 then 3 else if 5 / 0 < 1 then 3 else 4", 0);
        law("0 / 5 + 6", 6);
    }

    private static void lawsOfThings() {
        law("day", 0);
        law("strong", 7);
        law("wear", 0);
        law("trust", 50);
        law("kind", 3);
        law("ago", 99);
        law("wet", 1);
        law("hours", 4);
        law("heard", 0);
        String text = "man a 80 1;man b 60 0;excuse e 1 99 3 7;excuse f 1 99 4 9;"
            + "duty d a 0 4;duty g a 0 5;duty h b 0 6;duty i a 7 8;duty j b 7 9;wears = 2;passes = ";
        String[] laws = {"day", "wear", "trust", "ago", "hours", "wet", "100 - ago"};
        int[] due = {3, 2, 79, 3, 8, 0, 97};
        for (int i = 0; i < laws.length; i++) {
            // told for 0 and 1 on day 0, whatever comes of it: so TRUST is told by an if with which it PASSES then
            ExcuseMarket x = Check.reader(text + "if day < 1 then 100 else " + laws[i] + ";");
            x.buy(0);
            x.plan(0, 0);
            x.plan(1, 0);
            x.days(3);
            Check.due("law " + laws[i], x.pass(0, 3), due[i]);
        }
        ExcuseMarket x = Check.reader(text + "if day < 1 then 100 else wear + ago / 2;");
        x.buy(0);
        x.plan(0, 0);
        x.plan(1, 0);
        x.days(3);
        Check.due("never told to b", x.pass(0, 4), 49);
        Check.due("never told of f", x.pass(1, 3), 49);
        x = Check.reader("man a 80 0;excuse e 1 99 3 7;duty d a 0 4;duty g a 0 5;passes = 99 - ago;wears = ago;");
        x.buy(0);
        x.plan(0, 0);
        x.plan(1, 0);
        x.days(1);
        Check.due("never told is 99 days ago: caught, and twice 99 lost", x.count(9) & 1, 1);
        Check.due("told on this day is 0 days ago", x.man(0, 0), 0);
        x = Check.reader("man a 80 0;excuse e 1 99 3 7;duty d a 0 4;duty g a 0 5;passes = 100;wears = if ago < 1 then 7 else 1;");
        x.buy(0);
        x.plan(0, 0);
        x.plan(1, 0);
        x.days(1);
        Check.due("ago 0 on the same day", x.man(0, 0), 72);
        x = Check.reader("man a 80 0;excuse e 1 99 3 7;duty d a 0 4;passes = ago;wears = 0;");
        x.buy(0);
        x.plan(0, 0);
        x.days(60);
        x.days(39);
        Check.due("99 days ago", x.pass(0, 0), 99);
        x.undo();
        Check.due("60 days ago", x.pass(0, 0), 60);
        x = Check.reader("man a 80 0;excuse e 1 99 3 7;duty d a 2 4;passes = ago;wears = 0;");
        x.buy(0);
        x.plan(0, 0);
        x.days(7);
        Check.due("told on day 2, asked on day 7", x.pass(0, 0), 5);
    }

    private static void heard() {
        String text = "man a 90 0;man b 90 0;man c 90 0;man d 90 0;knows a d;knows d b;"
            + "excuse e 1 99 1 1;excuse f 1 99 2 1;excuse g 1 99 1 2;"
            + "duty da a 1 1;duty db b 1 1;duty dc c 1 1;duty dd d 1 1;passes = 100;wears = heard * 3 + 1;";
        int[][] plans = {{0, 0, 0, 0}, {1, 0, 0, 0}, {1, 1, 1, 0}, {0, 0, 0, 1}, {2, 1, 1, 0}, {-1, 1, 1, 0}, {0, 2, 1, 2}};
        int[] lost = {1, 4, 7, 7, 4, 4, 1};
        for (int i = 0; i < plans.length; i++) {
            ExcuseMarket x = Check.reader(text);
            for (int e = 0; e < 3; e++) {
                x.buy(e);
            }
            for (int d = 0; d < 4; d++) {
                x.plan(d, plans[i][d]);
            }
            Check.due("heard by d " + i, 90 - x.trust(3, 2), lost[i]);
            Check.due("a hears none, for d is told later " + i, x.trust(0, 2), plans[i][0] < 0 ? 90 : 89);
        }
        ExcuseMarket x = Check.reader("man a 90 0;man d 90 0;knows a d;excuse e 1 99 1 1;excuse f 1 99 2 1;"
            + "duty da a 1 1;duty db a 1 1;duty dd d 1 1;duty de d 2 1;duty df a 0 1;passes = 100;wears = heard * 3 + 1;");
        x.buy(0);
        x.buy(1);
        x.plan(0, 0);
        x.plan(1, 1);
        x.plan(2, 1);
        Check.due("one man who was told both counts once", x.trust(1, 2), 86);
        x.plan(2, -1);
        x.plan(3, 0);
        Check.due("not of the day before", x.trust(1, 3), 89);
    }

    private static void pass() {
        ExcuseMarket x = Check.reader("man a 50 2;excuse e 1 1 3 7;duty d a 9 4;duty f a 0 5;passes = trust + hours + day;");
        Check.due("now, whatever its day", x.pass(0, 0), 54);
        Check.due("another duty", x.pass(0, 1), 55);
        x.days(1);
        Check.due("the next day", x.pass(0, 0), 57);
        Check.due("of one that is over", x.pass(0, 1), 58);
        x.days(1);
        Check.due("beyond GOOD", x.pass(0, 0), 0);
        Check.due("no such excuse", x.pass(1, 0), -1);
        Check.due("no such excuse", x.pass(-1, 0), -1);
        Check.due("no such duty", x.pass(0, 2), -1);
        Check.due("no such duty", x.pass(0, -1), -1);
    }

    private static void byThePlan() {
        ExcuseMarket x = Check.reader("man a 50 2;man b 50 3;excuse e 1 99 3 99;excuse x 1 99 3 0;"
            + "duty d a 0 4;duty f b 1 5;duty g a 2 6;duty h a 2 7;duty i b 30 8;passes = strong * 2;wears = 5;");
        x.buy(0);
        x.buy(1);
        x.plan(0, 0);
        x.plan(1, 1);
        x.plan(2, 0);
        int[][] due = {{0, 0, 0, 0, 0}, {1, 1, 0, 0, 0}, {2, 1, 1, 0, 5}, {3, 2, 1, 1, 12}, {30, 2, 1, 1, 12}};
        for (int[] row : due) {
            for (int what = 0; what < 4; what++) {
                Check.due("planned " + row[0] + " " + what, x.planned(row[0], what), row[1 + what]);
            }
        }
        Check.due("trust", x.trust(0, 0), 50);
        Check.due("trust", x.trust(0, 1), 47);
        Check.due("trust", x.trust(0, 3), 46);
        Check.due("trust", x.trust(1, 2), 46);
        Check.due("trust", x.trust(1, 30), 99);
        Check.due("nothing happens", x.count(4), 0);
        Check.due("nothing happens", x.count(12), 5);
        x.days(1);
        Check.due("more", x.planned(2, 0), 1);
        Check.due("more", x.planned(2, 3), 12);
        x.undo();
        x.days(2);
        Check.due("more hours", x.planned(1, 3), 7);
        x.undo();
        x.days(1);
        Check.due("on day 30", x.planned(29, 2), 1);
        Check.due("on day 30", x.planned(30, 2), 2);
        int[] wrong = {-1, 31, Integer.MAX_VALUE, Integer.MIN_VALUE};
        for (int n : wrong) {
            Check.due("no such days", x.planned(n, 0), -1);
            Check.due("no such days", x.trust(0, n), -1);
            Check.due("no such days", x.year(n, 1), -1);
            Check.due("no such man", x.trust(n == 31 ? 2 : n, 1), -1);
        }
        Check.due("no such what", x.planned(1, 4), -1);
        Check.due("no such what", x.planned(1, -1), -1);
    }

    /** LOT 100 on day 0 for DUTY 0: 68 of seed 7, 47 of 8, 67 of 9, 53 of 10; RAIN on day 0: 45, 77, 54. */
    private static void year() {
        ExcuseMarket x = Check.reader("man a 50 2;excuse e 1 99 3 60;duty d a 0 4;passes = strong;seed 7;");
        x.buy(0);
        Check.due("not planned", x.year(9, 4), 0);
        x.plan(0, 0);
        int[] due = {0, 1, 1, 2};
        for (int s = 1; s <= 4; s++) {
            Check.due("seeds " + s, x.year(1, s), due[s - 1]);
        }
        Check.due("no day", x.year(0, 4), 0);
        Check.due("no seed", x.year(1, 0), -1);
        Check.due("too many seeds", x.year(1, 21), -1);
        Check.due("seeds below", x.year(1, -1), -1);
        x = Check.reader("man a 50 2;excuse e 1 99 3 60;duty d a 0 4;passes = 100 * wet;seed 7;rain 50;");
        x.buy(0);
        x.plan(0, 0);
        Check.due("rain by its own seed", x.year(1, 1), 1);
        Check.due("rain by its own seed", x.year(1, 3), 1);
        x = Check.reader("man a 50 2;excuse e 1 99 3 60;duty d a 0 4;duty f a 30 4;duty g a 5 4;passes = 100;seed 9999;");
        x.buy(0);
        x.plan(0, 0);
        x.plan(1, 0);
        x.plan(2, 0);
        Check.due("20 seeds", x.year(30, 20), 40);
        x.days(1);
        Check.due("more", x.year(30, 20), 40);
        Check.due("nothing happens", x.count(8), 1);
    }

    private static void shop(ExcuseMarket x, int set, int p, int... due) {
        Check.due("cheapest " + set + " " + p, x.cheapest(set, p), due[0]);
        for (int i = 1; i < due.length; i++) {
            Check.due("cheapestAt " + set + " " + p + " " + (i - 1), x.cheapestAt(set, p, i - 1), due[i]);
        }
        Check.due("not so many", x.cheapestAt(set, p, due.length - 1), -1);
        Check.due("below", x.cheapestAt(set, p, -1), -1);
    }

    private static void cheapest() {
        ExcuseMarket x = Check.reader("man a 50 0;man b 20 5;excuse e 40 99 1 90;excuse f 9 3 2 60;excuse g 3 99 3 30;"
            + "duty da a 4 1;duty db a 1 1;duty dc b 2 1;duty dd b 9 1;passes = strong;wears = 0;coins 5;");
        shop(x, 2, 60, 9, 1);
        shop(x, 2, 61, 40, 0);
        shop(x, 2, 30, 3, 2);
        shop(x, 2, 91, -2, -2);
        shop(x, 1, 60, 40, 0);
        shop(x, 1, 0, 3, 2);
        shop(x, 3, 60, 40, 0, 0);
        shop(x, 6, 60, 9, 1, 1);
        shop(x, 7, 60, 40, 0, 0, 0);
        shop(x, 11, 31, 40, 0, 0, 0);
        shop(x, 6, 100, -2, -2, -2);
        for (int set : new int[] {0, 15, 16, 17, -1, Integer.MIN_VALUE, 1 << 31 | 1, 512}) {
            Check.due("no such set " + set, x.cheapest(set, 1), -1);
            Check.due("no such set " + set, x.cheapestAt(set, 1, 0), -1);
        }
        Check.due("p", x.cheapest(1, -1), -1);
        Check.due("p", x.cheapest(1, 101), -1);
        Check.due("p", x.cheapestAt(1, 101, 0), -1);
        x.buy(2);
        shop(x, 2, 30, 0, 2);
        shop(x, 3, 31, 40, 0, 0);
        x.days(2);
        shop(x, 2, 30, -2, -2);
        shop(x, 6, 30, -2, -2, -2);
        shop(x, 4, 30, 0, 2);
        Check.due("NONE is looked at first", x.cheapestAt(2, 30, 1), -1);
        Check.due("NONE is looked at first", x.cheapest(2, 101), -1);
        Check.due("no excuses", Check.reader("man a 1 1;duty d a 0 1;").cheapest(1, 0), -2);
        Check.due("no excuses", Check.reader("man a 1 1;duty d a 0 1;").cheapestAt(1, 0, 0), -2);
    }

    private static void cheapestWears() {
        // told by days: first db on day 1, then da on day 4, when TRUST is 30 less and has mended by 3 * 2
        ExcuseMarket x = Check.reader("man a 50 2;excuse e 5 99 1 0;excuse f 6 99 1 0;excuse g 70 99 1 60;"
            + "duty da a 4 1;duty db a 1 1;duty dx a 2 1;passes = trust + strong;wears = 30;");
        shop(x, 1, 58, 5, 0);
        shop(x, 1, 59, 70, 2);
        shop(x, 2, 52, 5, 0);
        shop(x, 2, 53, 70, 2);
        shop(x, 3, 28, 5, 0, 0);
        shop(x, 3, 29, 70, 2, 2);
        shop(x, 3, 53, 70, 2, 2);
        x.buy(0);
        x.plan(2, 0);
        shop(x, 3, 28, 0, 0, 0);
        shop(x, 3, 29, 70, 2, 0);
        // wear: the second telling of the same one passes less
        x = Check.reader("man a 50 0;man b 50 0;excuse e 5 99 1 0;excuse f 6 99 1 0;"
            + "duty da a 4 1;duty db a 1 1;duty dc b 2 1;passes = 60 - wear * 20;wears = 0;");
        shop(x, 3, 40, 5, 0, 0);
        shop(x, 3, 41, 11, 0, 1);
        shop(x, 5, 60, 5, 0, 0);
        x.buy(0);
        x.plan(1, 0);
        x.days(2);
        shop(x, 1, 41, 6, 1);
        shop(x, 1, 40, 0, 0);
        // what was told ahead counts beside what the set tells
        x = Check.reader("man a 50 0;excuse e 5 99 1 0;excuse f 6 99 1 0;duty da a 0 1;duty db a 1 1;duty dc a 2 1;duty dd a 3 1;"
            + "passes = 60 - wear * 20;wears = 0;");
        x.buy(0);
        x.plan(0, 0);
        x.days(1);
        shop(x, 6, 20, 0, 0, 0);
        shop(x, 6, 21, 6, 0, 1);
        shop(x, 14, 20, 6, 0, 0, 1);
        shop(x, 14, 0, 0, 0, 0, 0);
        // of one day, by numbers: the second one is told when the first one was
        x = Check.reader("man a 50 0;excuse e 5 99 1 0;duty da a 1 5;duty db a 1 9;passes = hours * 10 - wear * 20;wears = 0;");
        shop(x, 3, 50, 5, 0, 0);
        x = Check.reader("man a 50 0;excuse e 5 99 1 0;duty da a 1 9;duty db a 1 5;passes = hours * 10 - wear * 20;wears = 0;");
        shop(x, 3, 50, -2, -2, -2);
        shop(x, 3, 30, 5, 0, 0);
    }

    private static void cheapestOnce() {
        ExcuseMarket x = Check.reader("man a 50 0;man b 50 0;excuse e 1 99 1 0 once;excuse f 10 99 1 0;excuse g 2 99 1 0 once;"
            + "duty da a 4 1;duty db a 1 1;duty dc b 2 1;passes = 100;");
        shop(x, 1, 100, 1, 0);
        shop(x, 3, 100, 3, 0, 2);
        shop(x, 7, 100, 10, 1, 1, 1);
        x.buy(0);
        x.buy(2);
        shop(x, 3, 100, 0, 0, 2);
        shop(x, 7, 100, 10, 0, 1, 1);
    }

    private static void cheapestAlike() {
        // da comes later than db, and yet stands first in the set
        ExcuseMarket x = Check.reader("man a 50 0;excuse e 1 99 1 0 once;excuse f 1 99 1 0 once;"
            + "duty da a 4 1;duty db a 1 1;passes = 100;");
        shop(x, 3, 100, 2, 0, 1);
        x = Check.reader("man a 50 0;excuse e 4 99 1 0;excuse f 2 99 1 0;excuse g 2 99 1 0;duty da a 4 1;duty db a 1 1;passes = 100;");
        shop(x, 3, 100, 2, 1, 1);
        x.buy(2);
        x.buy(0);
        shop(x, 3, 100, 0, 0, 0);
    }

    private static void cheapestHeardAndRain() {
        ExcuseMarket x = Check.reader("man a 50 0;man b 50 0;knows a b;excuse e 5 99 1 10;excuse f 1 99 2 20;"
            + "duty da a 1 1;duty db b 1 1;passes = strong - heard * 5;wears = 0;");
        shop(x, 3, 10, 1, 1, 1);
        shop(x, 1, 20, 1, 1);
        x = Check.reader("man a 50 0;man b 50 0;knows a b;excuse e 1 99 1 10;excuse f 1 99 2 10;"
            + "duty da a 1 1;duty db b 1 1;passes = 50 + heard * (kind - 1);wears = 0;");
        shop(x, 3, 50, 1, 0, 0);
        shop(x, 3, 51, -2, -2, -2);
        // LOT 100 of seed 7: 45 on day 0, 96 on day 1, 38 on day 3
        x = Check.reader("man a 50 0;excuse e 1 99 1 10;duty da a 0 1;duty db a 1 1;duty dc a 3 1;passes = wet * 50;rain 45;seed 7;");
        shop(x, 1, 50, -2, -2);
        shop(x, 2, 50, -2, -2);
        shop(x, 4, 50, 1, 0);
    }

    private static void calm() {
        ExcuseMarket x = Check.reader("man a 50 2;man b 10 0;excuse e 1 20 1 10;excuse f 1 99 1 10;duty d a 0 5;"
            + "passes = trust + hours - 1;wears = 30;");
        Check.due("today", x.calm(0, 0, 50), 0);
        Check.due("mended", x.calm(0, 0, 51), 1);
        Check.due("mended", x.calm(0, 0, 90), 20);
        Check.due("beyond GOOD", x.calm(0, 0, 91), -2);
        Check.due("later", x.calm(1, 0, 91), 21);
        Check.due("99 at most", x.calm(1, 0, 99), 25);
        Check.due("never", x.calm(1, 0, 100), -2);
        Check.due("never mends", x.calm(1, 1, 11), -2);
        x.buy(0);
        x.plan(0, 0);
        Check.due("nothing more is told till then", x.calm(0, 0, 50), 0);
        x.days(1);
        int trust = x.man(0, 0);
        Check.due("free or caught", trust == 22 || trust == 2, true);
        Check.due("from today on", x.calm(1, 0, trust), 1);
        Check.due("from today on", x.calm(1, 0, trust + 1), 2);
        Check.due("beyond GOOD, p 0", x.calm(0, 0, 0), 1);
        for (int none : new int[] {-1, 2, Integer.MAX_VALUE}) {
            Check.due("no such excuse", x.calm(none, 0, 0), -1);
            Check.due("no such man", x.calm(0, none, 0), -1);
        }
        Check.due("no such p", x.calm(0, 0, -1), -1);
        Check.due("no such p", x.calm(0, 0, 101), -1);
        x.days(60);
        x.days(38);
        Check.due("day 99", x.calm(1, 0, 99), 99);
        x.days(1);
        Check.due("beyond 99", x.calm(1, 0, 0), -2);
        x = Check.reader("man a 50 0;excuse e 1 99 1 10;passes = wet * 50;rain 39;seed 7;");
        Check.due("the first wet day", x.calm(0, 0, 1), 3);
        x = Check.reader("man a 50 0;excuse e 1 99 1 10;duty d a 0 1;passes = if day < 1 then 100 else ago;wears = 0;");
        Check.due("never told", x.calm(0, 0, 99), 0);
        x.buy(0);
        x.plan(0, 0);
        x.days(1);
        Check.due("40 days after", x.calm(0, 0, 40), 40);
        Check.due("99 days after", x.calm(0, 0, 99), 99);
        x = Check.reader("man a 50 0;man b 50 0;knows a b;excuse e 1 99 1 10;passes = 7 - heard * 9 + wear;");
        Check.due("heard 0", x.calm(0, 0, 7), 0);
    }
}
