/** The terms' part I: the FAULTS of a text, and what a text changes. */
final class FaultSentences {
    private FaultSentences() {
    }

    static void all() {
        firstByPlace();
        leastOfOnePlace();
        syntax();
        tokenRoom();
        room();
        lawRoom();
        firstRound();
        twice();
        noSuchName();
        firstOfTheName();
        wrong();
        faultyText();
        soundText();
        textsInTurn();
    }

    private static void firstByPlace() {
        Doc.term("FAULTS of a text, the first by its place (a byte; the text's end: its length),");
        Check.fault("#", 1, 0);
        Check.fault("man a 1 2", 1, 9);
        Check.fault("man a 1 2  ", 1, 11);
        Check.fault("man a 1 #;man # 1 2;", 1, 8);
        Check.fault("rain\n\n\n#", 1, 7);
        Check.fault(TextSentences.many("man ? 1 1;", 5) + "man #", 2, 50);
        Check.fault(TextSentences.many("man ? 1 1;", 5) + "# man", 1, 50);
        Check.fault("passes = (((((((1 ?;", 2, 15);
        Check.fault("passes = ? (((((((1;", 1, 9);
        Check.fault("man a 100 1;man a 1 10;", 5, 6);
        Check.fault("man a 1 1;man a 100 1;", 3, 14);
        Check.fault("duty d m 100 0;duty d m 1 1;", 4, 7);
        Check.fault("excuse e 1 1 1 1;test t f e e;", 4, 24);
        Check.fault("excuse e 1 1 1 1;test t e e f;", 3, 26);
    }

    private static void leastOfOnePlace() {
        Doc.term("of one place the least:");
        String full = "man a 1 1;man b 1 1;" + "rain 1;".repeat(130);
        Check.fault(full + "1", 1, 930);
        Check.fault(full + "#", 1, 930);
        Check.fault(full + "abcdefghi", 1, 930);
        Check.fault(full + "rain", 2, 930);
        Check.fault("passes = ((((((1 (", 1, 17);
        Check.fault("passes = " + "if 1 < 2 then 3 else ".repeat(4) + "4 if", 1, 95);
        Check.fault(TextSentences.many("test ?;", 6) + "rain test", 1, 47);
    }

    private static void syntax() {
        Doc.term("1 SYNTAX: a TOKEN, or what is none, with which no text goes on.");
        Check.fault("man a 1 2 #", 1, 10);
        Check.fault("man a 1 2 man", 1, 10);
        Check.fault("man man", 1, 4);
        Check.fault("man 1", 1, 4);
        Check.fault("man ;", 1, 4);
        Check.fault("man", 1, 3);
        Check.fault("rain 101 1;", 1, 9);
        Check.fault("knows a", 1, 7);
    }

    private static void tokenRoom() {
        Doc.term("2 ROOM: a 401st TOKEN;");
        String two = "man a 1 1;man b 1 1;";
        Check.fault(two + "rain 1;".repeat(130), 0, -1);
        Check.fault(two + "rain 1;".repeat(130) + "  ", 0, -1);
        Check.fault(two + "rain 1;".repeat(130) + " rain 1;", 2, 931);
        Check.fault(two + "rain 1;".repeat(129) + "test t", 1, 929);
        Check.fault(two + "rain 1;".repeat(129) + "test t;rain 1;", 2, 930);
        Check.fault("rain 1;".repeat(133) + "rain", 1, 935);
        Check.fault("rain 1;".repeat(133) + "rain ", 1, 936);
        Check.fault("rain 1;".repeat(133) + "rain 1", 2, 936);
        Check.fault("rain 1;".repeat(133) + "wears =", 2, 937);
        Check.fault("rain 1;".repeat(133) + "man a", 2, 935);
        Check.fault("rain 1;".repeat(131) + "test t;knows a", 1, 931);
        // 400 TOKENS of one LAW: passes = 1 + .. + 1 ;
        Check.fault("passes=" + "1+".repeat(198) + "1;", 0, -1);
        Check.fault("passes=" + "1+".repeat(198) + "1;;", 1, 405);
        Check.fault("passes=" + "1+".repeat(198) + "1+1;", 2, 405);
        Check.fault("passes=" + "1+".repeat(197) + "(1);", 0, -1);
        Check.fault("passes=" + "1+".repeat(197) + "((1));", 2, 405);
        Check.fault("passes=" + "1*".repeat(198) + "day*", 1, 407);
        Check.fault("passes=" + "1*".repeat(198) + "day*1", 2, 407);
        Check.fault("passes=1;" + "rain 1;".repeat(130) + "excuse e 1 1 1 1 once", 2, 936);
        Check.fault("excuse e 1 1 1 1 once;" + "rain 1;".repeat(130) + "test e e", 2, 939);
    }

    private static void room() {
        Doc.term("one more of a sort than told (at its first TOKEN);");
        String[] tells = {"man ? 1 1;", "excuse ? 1 1 1 1;", "duty ? m 1 1;", "knows m n;", "test ?;"};
        int[] most = {3, 7, 9, 8, 6};
        String ahead = "man m 1 1;man n 1 1;";
        for (int i = 0; i < tells.length; i++) {
            String full = ahead + TextSentences.many(tells[i], most[i]);
            Check.fault(full, 0, -1);
            Check.fault(full + tells[i].replace('?', 'z'), 2, full.length());
            Check.fault(full + "  " + tells[i].substring(0, tells[i].indexOf(' ')), 2, full.length() + 2);
            Check.fault(full + "rain #", 1, full.length() + 5);
            Check.fault(full + "rain 7;passes = 1;wears = 1;seed 1;coins 1;", 0, -1);
            Check.fault(full + "rain 777;" + tells[i].replace('?', 'z'), 2, full.length() + 9);
        }
        Check.fault("rain 1;".repeat(100) + "seed 1;".repeat(20), 0, -1);
        Check.fault("passes = 1;wears = 2;".repeat(50), 0, -1);
    }

    private static void lawRoom() {
        Doc.term("a 5th if of a LAW (at it);");
        String ifs = "if 1 < 2 then 3 else ".repeat(4);
        Check.fault("passes = " + ifs + "4;wears = " + ifs + "4;passes = " + ifs + "5;", 0, -1);
        Check.fault("passes = " + ifs + "if 1 < 2 then 3 else 4;", 2, 93);
        Check.fault("wears = " + ifs + "if", 2, 92);
        Check.fault("wears = " + ifs + "4;passes = " + ifs + " if", 2, 188);
        Doc.term("a 7th ( within one another (at it).");
        Check.fault("passes = ((((((1))))));", 0, -1);
        Check.fault("passes = (((((((1)))))));", 2, 15);
        Check.fault("passes = (((((( (", 2, 16);
        Check.fault("passes = ((((((1)))))) * ((((((2)))))) + " + "(1)+".repeat(9) + "((((((day))))));", 0, -1);
        Check.fault("passes = (1+(1*(1+(1*(1+(1*1))))));", 0, -1);
        Check.fault("passes = (1+(1*(1+(1*(1+(1*(1)))))));", 2, 27);
        Check.fault("passes = if ((((((1)))))) < ((((((2)))))) then ((((((3)))))) else ((((((4))))));", 0, -1);
        Check.fault("passes = if (((((((1)))))) < 2 then 3 else 4;", 2, 18);
        Check.fault("passes = if 1 < (((((((1)))))) then 3 else 4;", 2, 22);
        Check.fault("passes = if 1 < 2 then (((((((1)))))) else 4;", 2, 29);
        Check.fault("passes = if 1 < 2 then 3 else (((((((1))))));", 2, 36);
    }

    private static void firstRound() {
        Doc.term("If there is none, likewise:");
        Check.fault("man a 1 1;man a 100 1;man", 1, 25);
        Check.fault("man a 1 1;knows a a;knows b c;rain 101;#", 1, 39);
        Check.fault("man a 1 1;man a 1 1;" + TextSentences.many("test ?;", 7), 2, 62);
        Check.fault("rain 101;passes = (((((((1)))))));", 2, 24);
        Check.fault("rain 101;" + "rain 1;".repeat(133), 2, 9 + 7 * 132 + 5);
    }

    private static void twice() {
        Doc.term("3 TWICE: a NAME told already (all together);");
        String[] tells = {"man q 1 1;", "excuse q 1 1 1 1;", "duty q m 1 1;", "test q;"};
        for (String one : tells) {
            for (String other : tells) {
                String ahead = "man m 1 1;" + one;
                Check.fault(ahead + other, 3, ahead.length() + other.indexOf('q'));
                Check.fault(ahead + other.replace('q', 'r'), 0, -1);
            }
        }
        Check.fault("man m 1 1;duty m m 1 1;", 3, 15);
        Check.fault("man abcdefgh 1 1;test abcdefgh;", 3, 22);
        Check.fault("man abcdefgh 1 1;test abcdefg;test bcdefgh;", 0, -1);
        String all = TextSentences.many("man m? 1 1;", 5) + TextSentences.many("excuse e? 1 1 1 1;", 7)
            + TextSentences.many("duty d? ma 1 1;", 9) + TextSentences.many("test t?;", 5);
        Check.fault(all + "test tf;", 0, -1);
        for (String name : "ma me ea eg da di ta te".split(" ")) {
            Check.fault(all + "test " + name + ";", 3, all.length() + 5);
        }
        Doc.term("(at the second NAME) KNOWS of a MAN and himself;");
        Check.fault("man a 1 1;knows a a;", 3, 18);
        Check.fault("man a 1 1;man b 1 1;knows b b;", 3, 28);
        Check.fault("man a 1 1;man b 1 1;knows a b;knows b a;knows a b;", 0, -1);
        Doc.term("(at it) an EXCUSE again of a TEST.");
        String two = "excuse e 1 1 1 1;excuse f 1 1 1 1;";
        Check.fault(two + "test t e e;", 3, 43);
        Check.fault(two + "test t e f e;", 3, 45);
        Check.fault(two + "test t f f;", 3, 43);
        Check.fault(two + "test t e;test s e f;test r f e;", 0, -1);
    }

    private static void noSuchName() {
        Doc.term("4 NAME: (at it) no such MAN, EXCUSE told ahead");
        Check.fault("duty d m 1 1;", 4, 7);
        Check.fault("duty d m 1 1;man m 1 1;", 4, 7);
        Check.fault("man m 1 1;duty d m 1 1;", 0, -1);
        Check.fault("duty d d 1 1;", 4, 7);
        Check.fault("excuse e 1 1 1 1;duty d e 1 1;", 4, 24);
        Check.fault("man m 1 1;duty a m 1 1;duty b a 1 1;", 4, 30);
        Check.fault("test s;duty d s 1 1;", 4, 14);
        Check.fault("man a 1 1;knows a b;", 4, 18);
        Check.fault("man a 1 1;knows b a;", 4, 16);
        Check.fault("man a 1 1;knows a b;man b 1 1;", 4, 18);
        Check.fault("knows b b;", 4, 6);
        Check.fault("excuse e 1 1 1 1;man a 1 1;knows a e;", 4, 35);
        Check.fault("test t e;", 4, 7);
        Check.fault("test t e;excuse e 1 1 1 1;", 4, 7);
        Check.fault("test t t;", 4, 7);
        Check.fault("test t e e;", 4, 7);
        Check.fault("man a 1 1;test t a;", 4, 17);
        Check.fault("test s;test t s;", 4, 14);
        Check.fault("excuse e 1 1 1 1;test t e f;", 4, 26);
        Check.fault("man abcd 1 1;duty d abc 1 1;", 4, 20);
        Check.fault("man abc 1 1;duty d abcd 1 1;", 4, 19);
    }

    /** A NAME told more than once is a FAULT that stands ahead of all that looks for it: no other one may come of it. */
    private static void firstOfTheName() {
        Doc.term("(a NAME told more than once is that of the first one).");
        Check.fault("man a 1 1;excuse a 1 1 1 1;duty d a 1 1;test t a;", 3, 17);
        Check.fault("excuse a 1 1 1 1;man a 1 1;test t a;duty d a 1 1;", 3, 21);
        Check.fault("man a 1 1;man b 1 1;man a 2 2;knows a b;", 3, 24);
    }

    private static void wrong() {
        Doc.term("5 WRONG (at the INT): a number not as told above.");
        Check.fault("man a 100 1;", 5, 6);
        Check.fault("man a 99 10;", 5, 9);
        Check.fault("man a 100 10;", 5, 6);
        Check.fault("excuse a 99 99 9 100 once;", 5, 17);
        Check.fault("excuse a 1 2 0010 4;", 5, 13);
        Check.fault("man m 1 1;duty a m 99 0;", 5, 22);
        Check.fault("rain 101;", 5, 5);
        Check.fault("rain 101;rain 1;", 5, 5);
        Check.fault("coins   1000;", 5, 8);
        Check.fault("passes = 9999;wears = 9999 * 9999;seed 9999;", 0, -1);
    }

    private static ExcuseMarket tapeGone(ExcuseMarket x) {
        x.back(x.count(11));
        return x;
    }

    private static void faultyText() {
        Doc.term("A text with a FAULT changes nothing but the tape;");
        String spoilt = "man a 7 7;excuse e 1 1 1 1;duty d a 1 1;knows a a;passes = 3;wears = 3;rain 100;coins 1;seed 5;";
        String[] texts = {spoilt + "#", spoilt + "passes = (((((((1", spoilt, spoilt.replace("a a", "b a"),
            spoilt.replace("a a;", "a b;").replace("7 7;", "7 7;man b 100 1;")};
        for (int i = 0; i < texts.length; i++) {
            ExcuseMarket x = tapeGone(Markets.rich());
            Check.type(x, texts[i]);
            Check.due("fault of " + texts[i], x.read(), i + 1);
            Check.due("tape", x.count(11), 0);
            Check.type(x, "#");
            x.read();
            ExcuseMarket y = tapeGone(Markets.rich());
            Check.type(y, "#");
            y.read();
            Twins.alike("all else behind FAULT " + (i + 1), x, y);
        }
    }

    private static void soundText() {
        Doc.term("else it is in place of the one ahead: day 0, TRUST as told, nothing bought or planned, nothing told to anybody;");
        ExcuseMarket x = tapeGone(Markets.rich());
        Check.type(x, Markets.TEXT);
        Check.due("the same text again", x.read(), 0);
        Twins.alike("as at first", x, Check.reader(Markets.TEXT));
        x = tapeGone(Markets.rich());
        Check.type(x, "");
        Check.due("a text of nothing", x.read(), 0);
        Twins.alike("as a new object", x, new ExcuseMarket());
        x = tapeGone(Markets.rich());
        Check.type(x, "man m 40 0;excuse e 1 9 1 1;duty d m 0 1;");
        Check.due("another text", x.read(), 0);
        int[] due = {1, 1, 1, 0, 0, 50, 0, 0, 0, 0, 0, 0, 0, 0, 0, 0};
        for (int what = 0; what < due.length; what++) {
            Check.due("count " + what, x.count(what), due[what]);
        }
        Check.due("TRUST as told", x.man(0, 0), 40);
        Check.due("nothing told", x.told(0, 0, false) + x.man(0, 3) + x.man(0, 4) + x.excuse(0, 5), 0);
        Check.due("never told", x.told(0, 0, true), -2);
        Check.due("nothing planned", x.duty(0, 3), -2);
        Check.due("yet to come", x.duty(0, 4), 0);
        anewBehindAll();
        Doc.term("nothing can be undone, nothing is KNOWN or SAID, SLOTS hold nothing.");
        x = tapeGone(Markets.rich());
        Check.due("something of each", x.count(12) * x.count(13) * x.count(14) * x.count(15) > 0, true);
        Check.type(x, Markets.TEXT);
        x.read();
        Check.due("undo", x.undo(), false);
        Check.due("SAID", x.count(13), 0);
        Check.due("KNOWN", x.count(14), 0);
        for (int slot = 0; slot < 3; slot++) {
            Check.due("restore", x.restore(slot), false);
        }
        Check.due("numbers begin anew", x.say(1, 1, 1, 1) + x.know(0, 0, 1), 0);
    }

    /** Of the text ahead one DUTY was FREE, one CAUGHT and one DONE. */
    private static void anewBehindAll() {
        String text = "man m 40 1;excuse e 1 9 1 1;duty d m 0 1;duty f m 0 2;duty g m 0 3;passes = if hours < 2 then 100 else 0;";
        ExcuseMarket x = AheadSentences.owner(text, 0);
        x.plan(0, 0);
        x.plan(1, 0);
        x.days(1);
        Check.due("FREE, CAUGHT and DONE", x.count(8) * 100 + x.count(9) * 10 + x.count(10), 124);
        Check.type(x, text);
        Check.due("the same text again", x.read(), 0);
        Twins.alike("behind FREE, CAUGHT and DONE ones", x, Check.reader(text));
    }

    /** Nothing of a text, sound or not, is left in those behind it. */
    private static void textsInTurn() {
        Doc.term("else it is in place of the one ahead");
        String full = "man a 50 2;man b 40 0;knows a b;excuse e 1 9 1 1;excuse f 1 9 1 1;duty d a 0 1;duty g b 0 1;test t e;test u f;"
            + "passes = 100;wears = 3;rain 100;coins 9;seed 7;";
        String[] spoilt = {"man a 50 2;man a 1 1;", full + "knows a b;knows b", full + "man c 100 1;", full + "passes = ((1"};
        for (String text : spoilt) {
            ExcuseMarket x = Check.reader(full);
            Check.type(x, text);
            Check.due("a spoilt text", x.read() > 0, true);
            Check.type(x, "man a 20 1;man b 30 0;");
            Check.due("a small text", x.read(), 0);
            Twins.alike("a small text behind a spoilt one", x, Check.reader("man a 20 1;man b 30 0;"));
            x = Check.reader(full);
            Check.type(x, text);
            x.read();
            Check.type(x, "man a 20 1;excuse e 1 9 1 1;duty d a 0 1;duty f a 0 1;rain 45;");
            Check.due("another text", x.read(), 0);
            Check.due("PASSES as not told", x.pass(0, 0), 50);
            Check.due("over", x.count(8) + x.count(9) + x.count(10), 0);
            // LOT 100 of seed 0 on day 0 is 40, that of seed 7 is 45
            Check.due("SEED as not told", x.rains(0), 1);
        }
    }
}
