/** Promises 1 to 5, and the faults of a text. */
public final class TextTest {
    public static void main(String[] args) {
        newObject();
        feedAndBack();
        readAndPlace();
        tokens();
        syntax();
        room();
        tokenRoom();
        twice();
        noSuchName();
        wrong();
        firstFault();
        lastOneTold();
        goodTextBeginsAnew();
        textsInTurn();
        Check.end("TextTest");
    }

    private static void newObject() {
        ExcuseMarket x = new ExcuseMarket();
        for (int what = 0; what <= 15; what++) {
            Check.due("new count " + what, x.count(what), what == 5 ? 50 : 0);
        }
        Check.due("new place", x.place(), -1);
        Check.due("new undo", x.undo(), false);
        Check.due("new restore", x.restore(0), false);
        Check.due("new forget", x.forget(), 0);
        Check.due("new rains", x.rains(0), 0);
        Check.due("new days", x.days(0), 0);
        Check.due("new man", x.man(0, 0), -1);
        Check.due("NONE", ExcuseMarket.NONE, -1);
    }

    private static void feedAndBack() {
        ExcuseMarket x = new ExcuseMarket();
        Check.due("feed", x.feed(0x6d616e20, 0x61203120, 0x323b2020, -1, Integer.MIN_VALUE), 20);
        Check.due("back too far", x.back(21), -1);
        Check.due("back below 0", x.back(-1), -1);
        Check.due("back of the least int", x.back(Integer.MIN_VALUE), -1);
        Check.due("back 0", x.back(0), 20);
        Check.due("back 10", x.back(10), 10);
        Check.due("tape", x.count(11), 10);
        Check.due("highest byte first", x.read(), 0);
        Check.due("trust", x.man(0, 0), 1);
        Check.due("mends", x.man(0, 1), 2);
        for (int i = 1; i <= 100; i++) {
            Check.due("feed " + i, x.feed(0x20202020, 0x20202020, 0x20202020, 0x20202020, 0x20202020), 20 * i);
        }
        Check.due("feed of a full tape", x.feed(0, 0, 0, 0, 0), -1);
        Check.due("nothing came", x.count(11), 2000);
        Check.due("back 19", x.back(19), 1981);
        Check.due("feed beyond 2,000", x.feed(0, 0, 0, 0, 0), -1);
        Check.due("back 1", x.back(1), 1980);
        Check.due("feed up to 2,000", x.feed(0x20202020, 0x20202020, 0x20202020, 0x20202020, 0x20202020), 2000);
        Check.due("blanks are a text", x.read(), 0);
        Check.due("empty", x.count(11), 0);
        Check.due("back of an empty tape", x.back(1), -1);
        Check.due("back 0 of an empty tape", x.back(0), 0);
    }

    private static void readAndPlace() {
        ExcuseMarket x = Check.reader("man a 5 1;");
        Check.due("place of a sound text", x.place(), -1);
        Check.type(x, "man a 5 ?;");
        Check.due("read", x.read(), 1);
        Check.due("place", x.place(), 8);
        Check.due("place stays", x.place(), 8);
        Check.due("the text ahead stays", x.man(0, 0), 5);
        Check.type(x, "");
        Check.due("an empty text", x.read(), 0);
        Check.due("place goes", x.place(), -1);
        Check.due("no man any more", x.count(0), 0);
    }

    private static void tokens() {
        Check.fault("man abcdefgh 1 2;", 0, -1);
        Check.fault("man abcdefghi 1 2;", 1, 4);
        Check.fault("man a 9999 2;", 5, 6);
        Check.fault("man a 0009 0002;", 0, -1);
        Check.fault("man a 00009 2;", 1, 6);
        Check.fault("man a1 2;", 0, -1);
        Check.fault("man zaz 1 2;knows zaz zaz;", 3, 22);
        Check.fault("mana 1 2;", 1, 0);
        Check.fault("rain1;coins2;seed3;passes=1+day*(2-wet)/3;", 0, -1);
        Check.fault("\t\r\n man\na\r1\t2 ; ", 0, -1);
        Check.fault("man a 1\u000b2;", 1, 7);
        Check.fault("man a 1\u000c2;", 1, 7);
        Check.fault("man a 1\u00002;", 1, 7);
        Check.fault("man a 1\u00a02;", 1, 7);
        Check.fault("man a 1 2;\u00ff", 1, 10);
        Check.fault("man A 1 2;", 1, 4);
        Check.fault("man a_ 1 2;", 1, 5);
        Check.fault("man a 1.2;", 1, 7);
        Check.fault("man a 1,2;", 1, 7);
        for (String word : ("man excuse once duty knows test passes wears rain coins seed if then else day strong wear trust kind "
            + "ago wet hours heard").split(" ")) {
            Check.fault("man " + word + " 1 2;", 1, 4);
            Check.fault("man " + word + "x 1 2;", 0, -1);
        }
    }

    private static void syntax() {
        Check.fault("", 0, -1);
        Check.fault("man", 1, 3);
        Check.fault("man  ", 1, 5);
        Check.fault("man ;", 1, 4);
        Check.fault("man a 1 2", 1, 9);
        Check.fault("man a 1 2;;", 1, 10);
        Check.fault("man a 1 2 3;", 1, 10);
        Check.fault("a", 1, 0);
        Check.fault("day", 1, 0);
        Check.fault("excuse e 1 2 3 4 once;", 0, -1);
        Check.fault("excuse e 1 2 3 4 once once;", 1, 22);
        Check.fault("excuse e 1 2 3 once;", 1, 15);
        Check.fault("man m 1 1;duty d m 1;", 1, 20);
        Check.fault("man m 1 1;duty d 1 1;", 1, 17);
        Check.fault("knows a;", 1, 7);
        Check.fault("test ;", 1, 5);
        Check.fault("test t 1;", 1, 7);
        Check.fault("rain ;", 1, 5);
        Check.fault("rain x;", 1, 5);
        Check.fault("coins day;", 1, 6);
        Check.fault("passes 1;", 1, 7);
        Check.fault("passes = ;", 1, 9);
        Check.fault("passes = 1 + ;", 1, 13);
        Check.fault("passes = 1 2;", 1, 11);
        Check.fault("passes = -1;", 1, 9);
        Check.fault("passes = (1;", 1, 11);
        Check.fault("passes = 1);", 1, 10);
        Check.fault("passes = ();", 1, 10);
        Check.fault("passes = a;", 1, 9);
        Check.fault("passes = once;", 1, 9);
        Check.fault("passes = 1 < 2;", 1, 11);
        Check.fault("passes = (1 < 2);", 1, 12);
        Check.fault("passes = if 1 then 2 else 3;", 1, 14);
        Check.fault("passes = if 1 < 2 then 3;", 1, 24);
        Check.fault("passes = if 1 < 2 < 3 then 3 else 4;", 1, 18);
        Check.fault("passes = if 1 < 2 then if 1 < 2 then 3 else 4 else 5;", 1, 23);
        Check.fault("passes = 1 + if 1 < 2 then 3 else 4;", 1, 13);
        Check.fault("passes = if 1 < 2 then 3 else", 1, 29);
        Check.fault("wears = if 1 < 2 then 3 else if 4 < 5 then (6 - 7) / 8 else day * wet + heard;", 0, -1);
    }

    private static String many(String tell, int n) {
        StringBuilder all = new StringBuilder();
        for (int i = 0; i < n; i++) {
            all.append(tell.replace('?', (char) ('a' + i)));
        }
        return all.toString();
    }

    private static void room() {
        Check.fault(many("man ? 1 1;", 5), 0, -1);
        Check.fault(many("man ? 1 1;", 6), 2, 50);
        Check.fault(many("man ? 1 1;", 5) + "man", 2, 50);
        Check.fault(many("man ? 1 1;", 5) + " man a", 2, 51);
        Check.fault(many("excuse ? 1 1 1 1;", 7), 0, -1);
        Check.fault(many("excuse ? 1 1 1 1;", 8), 2, 119);
        Check.fault("man x 1 1;" + many("duty ? x 1 1;", 9), 0, -1);
        Check.fault("man x 1 1;" + many("duty ? x 1 1;", 10), 2, 127);
        String three = many("man ? 1 1;", 3);
        Check.fault(three + many("knows a b;", 4) + many("knows c a;", 4), 0, -1);
        Check.fault(three + many("knows a b;", 9), 2, 110);
        Check.fault(many("test ?;", 6), 0, -1);
        Check.fault(many("test ?;", 7), 2, 42);
        String ifs = many("if 1 < 2 then 3 else ", 4);
        Check.fault("passes = " + ifs + "4; wears = " + ifs + "4; passes = " + ifs + "5;", 0, -1);
        Check.fault("passes = " + ifs + "if 1 < 2 then 3 else 4;", 2, 9 + 84);
        Check.fault("wears = " + ifs + "if", 2, 8 + 84);
        Check.fault("passes = ((((((1))))));", 0, -1);
        Check.fault("passes = (((((((1)))))));", 2, 15);
        Check.fault("passes = if ((((((1)))))) < ((((((2)))))) then ((((((3)))))) else ((((((4))))));", 0, -1);
        Check.fault("passes = (((((( (", 2, 16);
        Check.fault("passes = ((((((1 (", 1, 17);
        Check.fault("passes = " + many("(1)+", 9) + "((((((1)))))) * ((((((2))))));", 0, -1);
        Check.fault("passes = if ((((((1)))))) < 2 then 3 else (((((((1)))))));", 2, 48);
    }

    private static void tokenRoom() {
        String two = "man a 1 1;man b 1 1;";
        Check.fault(two + many("rain 1;", 130), 0, -1);
        Check.fault(two + many("rain 1;", 130) + "  ", 0, -1);
        Check.fault(two + many("rain 1;", 130) + " rain 1;", 2, 931);
        Check.fault(two + many("rain 1;", 130) + " man", 2, 931);
        Check.fault(two + many("rain 1;", 130) + " 1", 1, 931);
        Check.fault(two + many("rain 1;", 130) + " abcdefghi", 1, 931);
        Check.fault(many("rain 1;", 133) + "rain", 1, 935);
        Check.fault(many("rain 1;", 133) + "rain ", 1, 936);
        Check.fault(many("rain 1;", 133) + "rain 1", 2, 936);
        Check.fault(many("rain 1;", 133) + "rain ;", 1, 936);
        Check.fault(many("rain 1;", 133) + "wears =", 2, 937);
    }

    private static void twice() {
        Check.fault("man a 1 1;man a 1 1;", 3, 14);
        Check.fault("man a 1 1;excuse a 1 1 1 1;", 3, 17);
        Check.fault("man a 1 1;duty a a 1 1;", 3, 15);
        Check.fault("man a 1 1;test a;", 3, 15);
        Check.fault("excuse a 1 1 1 1;man a 1 1;", 3, 21);
        Check.fault("test a;excuse a 1 1 1 1;", 3, 14);
        Check.fault("test a;test a;", 3, 12);
        Check.fault("man m 1 1;duty a m 1 1;excuse a 1 1 1 1;", 3, 30);
        Check.fault("man m 1 1;duty a m 1 1;duty a m 1 1;", 3, 28);
        String all = many("man m? 1 1;", 5) + many("excuse e? 1 1 1 1;", 7) + many("duty d? ma 1 1;", 9) + many("test t?;", 5);
        Check.fault(all + "test tf;", 0, -1);
        Check.fault(all + "test te;", 3, all.length() + 5);
        Check.fault(all + "test ma;", 3, all.length() + 5);
        Check.fault("man a 1 1;knows a a;", 3, 18);
        Check.fault("man a 1 1;man b 1 1;knows a b;knows b a;knows a b;", 0, -1);
        Check.fault("excuse e 1 1 1 1;test t e e;", 3, 26);
        Check.fault("excuse e 1 1 1 1;excuse f 1 1 1 1;test t e f e;", 3, 45);
        Check.fault("excuse e 1 1 1 1;excuse f 1 1 1 1;test t f f;", 3, 43);
        Check.fault("excuse e 1 1 1 1;test t e;test s e;", 0, -1);
    }

    private static void noSuchName() {
        Check.fault("duty d m 1 1;", 4, 7);
        Check.fault("duty d m 1 1;man m 1 1;", 4, 7);
        Check.fault("duty d d 1 1;", 4, 7);
        Check.fault("excuse e 1 1 1 1;duty d e 1 1;", 4, 24);
        Check.fault("man a 1 1;knows a b;", 4, 18);
        Check.fault("man a 1 1;knows b a;", 4, 16);
        Check.fault("knows b b;", 4, 6);
        Check.fault("excuse e 1 1 1 1;man a 1 1;knows a e;", 4, 35);
        Check.fault("test t e;", 4, 7);
        Check.fault("test t t;", 4, 7);
        Check.fault("test t e e;", 4, 7);
        Check.fault("man a 1 1;test t a;", 4, 17);
        Check.fault("excuse e 1 1 1 1;test t e f;", 4, 26);
        Check.fault("man abcd 1 1;duty d abc 1 1;", 4, 20);
        Check.fault("man abc 1 1;duty d abcd 1 1;", 4, 19);
    }

    private static void wrong() {
        Check.fault("man a 0 0;man b 99 9;", 0, -1);
        Check.fault("man a 100 0;", 5, 6);
        Check.fault("man a 0 10;", 5, 8);
        Check.fault("excuse a 0 0 0 0;excuse b 99 99 9 99 once;", 0, -1);
        Check.fault("excuse a 100 0 0 0;", 5, 9);
        Check.fault("excuse a 0 100 0 0;", 5, 11);
        Check.fault("excuse a 0 0 10 0;", 5, 13);
        Check.fault("excuse a 0 0 0 100;", 5, 15);
        Check.fault("man m 1 1;duty a m 0 1;duty b m 99 9;", 0, -1);
        Check.fault("man m 1 1;duty a m 100 1;", 5, 19);
        Check.fault("man m 1 1;duty a m 1 0;", 5, 21);
        Check.fault("man m 1 1;duty a m 1 10;", 5, 21);
        Check.fault("rain 0;rain 100;coins 0;coins 999;seed 0;seed 9999;", 0, -1);
        Check.fault("rain 101;", 5, 5);
        Check.fault("coins 1000;", 5, 6);
        Check.fault("passes = 9999; wears = 9999 * 9999;", 0, -1);
    }

    private static void firstFault() {
        Check.fault("man a 1 1;man a 100 1;man", 1, 25);
        Check.fault("man a 1 1;man a 1 1;" + many("test ?;", 7), 2, 62);
        Check.fault("man a 1 1;man a 100 1;", 3, 14);
        Check.fault("man a 100 1;man a 1 1;", 5, 6);
        Check.fault("duty d m 100 0;duty d m 1 1;", 4, 7);
        Check.fault("man a 100 10;", 5, 6);
        Check.fault("excuse e 1 1 1 1;test t f e e;", 4, 24);
        Check.fault("man a 1 1;man b 1 1;test b e;", 3, 25);
        Check.fault(many("man ? 1 1;", 5) + "? man", 1, 50);
        Check.fault("passes = (((((((1 ?;", 2, 15);
    }

    private static void lastOneTold() {
        ExcuseMarket x = Check.reader("man m 50 0;excuse e 1 9 1 1;duty d m 0 1;"
            + "passes = 1; passes = 77; wears = 3; wears = 8; rain 100; rain 0; coins 5; coins 6; seed 1; seed 2;");
        Check.due("passes told last", x.pass(0, 0), 77);
        Check.due("rain told last", x.rains(0), 0);
        Check.due("coins told last", x.count(5), 6);
        Check.due("buy", x.buy(0), 5);
        Check.due("plan", x.plan(0, 0), true);
        int trust = x.trust(0, 1);
        Check.due("wears told last", trust == 42 || trust == 34, true);
    }

    private static void goodTextBeginsAnew() {
        ExcuseMarket x = Check.reader("man m 50 0;excuse e 1 9 1 1;duty d m 0 1;passes = 7;wears = 3;rain 100;coins 9;seed 4;");
        x.buy(0);
        x.plan(0, 0);
        x.hold(1);
        x.days(1);
        x.say(1, 1, 1, 1);
        x.know(0, 0, 1);
        Check.type(x, "man m 40 0;excuse e 1 9 1 1;duty d m 0 1;");
        Check.due("read again", x.read(), 0);
        int[] due = {1, 1, 1, 0, 0, 50, 0, 0, 0, 0, 0, 0, 0, 0, 0, 0};
        for (int what = 0; what < due.length; what++) {
            Check.due("count anew " + what, x.count(what), due[what]);
        }
        Check.due("trust anew", x.man(0, 0), 40);
        Check.due("told anew", x.told(0, 0, false), 0);
        Check.due("plan anew", x.duty(0, 3), -2);
        Check.due("law anew", x.pass(0, 0), 50);
        Check.due("rain anew", x.rains(0), 0);
        Check.due("undo anew", x.undo(), false);
        Check.due("restore anew", x.restore(1), false);
        x.buy(0);
        x.plan(0, 0);
        int trust = x.trust(0, 1);
        Check.due("wears anew", trust == 30 || trust == 20, true);
    }

    /** Nothing of a text, sound or not, is left in those behind it. */
    private static void textsInTurn() {
        String full = "man a 50 2;man b 40 0;knows a b;excuse e 1 9 1 1;excuse f 1 9 1 1;duty d a 0 1;duty g b 0 1;test t e;test u f;"
            + "passes = 100;wears = 3;rain 100;coins 9;seed 7;";
        ExcuseMarket x = new ExcuseMarket();
        for (int round = 0; round < 3; round++) {
            Check.type(x, full);
            Check.due("the full text", x.read(), 0);
            Check.due("tests", x.count(3), 2);
            Check.due("friends", x.man(0, 2), 2);
            x.buy(0);
            x.plan(0, 0);
            x.days(1);
            Check.due("free and done", x.count(8) * 10 + x.count(10), 12);
            String spoilt = round == 0 ? "man a 50 2;man a 1 1;" : round == 1 ? full + "knows a b;knows b" : full + "man c 100 1;";
            Check.type(x, spoilt);
            Check.due("a spoilt text", x.read(), round == 0 ? 3 : round == 1 ? 1 : 5);
            Check.due("stays", x.count(8) * 10 + x.count(10), 12);
            Check.type(x, "man a 20 1;man b 30 0;");
            Check.due("a small text", x.read(), 0);
            int[] due = {2, 0, 0, 0, 0, 50, 0, 0, 0, 0, 0, 0, 0, 0, 0, 0};
            for (int what = 0; what < due.length; what++) {
                Check.due("small count " + what, x.count(what), due[what]);
            }
            Check.due("no friends", x.man(0, 2) + x.man(1, 2), 0);
            Check.due("no rain", x.rains(0), 0);
            Check.type(x, full + "man e 1 1;");
            Check.due("a NAME of an EXCUSE", x.read(), 3);
            Check.type(x, "man a 20 1;excuse e 1 9 1 1;duty d a 0 1;duty f a 0 1;rain 45;");
            Check.due("another text", x.read(), 0);
            Check.due("PASSES as not told", x.pass(0, 0), 50);
            Check.due("over", x.count(8) + x.count(9) + x.count(10), 0);
            // LOT 100 of seed 0 on day 0 is 40, that of seed 7 is 45
            Check.due("SEED as not told", x.rains(0), 1);
        }
        String knows = "man a 1 1;man b 1 1;" + many("knows a b;", 8);
        for (int round = 0; round < 4; round++) {
            Check.type(x, knows);
            Check.due("eight KNOWS each time", x.read(), 0);
        }
    }
}
