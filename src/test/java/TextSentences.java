/** The terms' part I: a TEXT, its TOKENS, and what it tells. */
final class TextSentences {
    private static final String[] WORDS = ("man excuse once duty knows test passes wears rain coins seed if then else day strong wear trust "
        + "kind ago wet hours heard").split(" ");

    private TextSentences() {
    }

    static void all() {
        bytes();
        blanks();
        names();
        ints();
        signs();
        noTokens();
        tells();
        laws();
        men();
        excuses();
        duties();
        knows();
        tests();
        numbers();
        manyMen();
        manyExcuses();
        manyDuties();
        lawsNotTold();
        settings();
    }

    static String many(String tell, int n) {
        StringBuilder all = new StringBuilder();
        for (int i = 0; i < n; i++) {
            all.append(tell.replace('?', (char) ('a' + i)));
        }
        return all.toString();
    }

    private static void bytes() {
        Doc.term("A TEXT has 2,000 bytes at most.");
        String text = "rain 5;" + " ".repeat(1983) + "man a 7 1;";
        ExcuseMarket x = new ExcuseMarket();
        Check.type(x, text);
        Check.due("tape", x.count(11), 2000);
        Check.due("one more", x.feed(0x20202020, 0x20202020, 0x20202020, 0x20202020, 0x20202020), -1);
        Check.due("read of 2,000 bytes", x.read(), 0);
        Check.due("its last TELL", x.man(0, 0), 7);
        Check.fault(text.substring(0, 1999) + " ", 1, 2000);
        Check.fault(text.substring(0, 1999) + "?", 1, 1999);
        Check.fault(" ".repeat(2000), 0, -1);
        Check.fault("?" + " ".repeat(1999), 1, 0);
    }

    private static boolean isBlank(char b) {
        return b == 9 || b == 10 || b == 13 || b == 32;
    }

    private static boolean isDigit(char b) {
        return b >= '0' && b <= '9';
    }

    private static boolean isLetter(char b) {
        return b >= 'a' && b <= 'z';
    }

    private static void blanks() {
        Doc.term("TOKENS, the longest that can be, with blanks (9, 10, 13, 32) between or not:");
        for (char b = 0; b < 256; b++) {
            Check.fault("man a 1" + b + " 2;", isBlank(b) || isDigit(b) ? 0 : 1, 7);
            Check.fault(b + "man a 1 2;", isBlank(b) ? 0 : 1, 0);
            Check.fault("man a 1 2;" + b, isBlank(b) ? 0 : 1, 10);
        }
        Check.fault("\t\r\n man\na\r1\t2 ; ", 0, -1);
        Check.fault("rain1;coins2;seed3;passes=1+day*(2-wet)/3;man a1 2;", 0, -1);
        Check.fault("mana 1 2;", 1, 0);
        Check.fault("man manman 1 2;", 0, -1);
        Check.fault("man zaz 1 2;knows zaz zaz;", 3, 22);
        Check.fault("man a 12;", 1, 8);
        Check.due("the longest INT", Check.reader("man a 12 3;").man(0, 0), 12);
    }

    private static void names() {
        Doc.term("NAMES (letters a .. z, 8 at most, none of the words in quotes)");
        for (char b = 0; b < 256; b++) {
            Check.fault("man " + b + " 1 2;", isLetter(b) ? 0 : 1, isBlank(b) ? 6 : 4);
            Check.fault("man a" + b + "z 1 2;", isLetter(b) ? 0 : 1, isBlank(b) ? 6 : 5 + (isDigit(b) ? 1 : 0));
        }
        Check.fault("man abcdefgh 1 2;", 0, -1);
        Check.fault("man abcdefghi 1 2;", 1, 4);
        Check.fault("man zzzzzzzz 1 1;man zzzzzzzy 1 1;man zzzzzzz 1 1;", 0, -1);
        for (String word : WORDS) {
            Check.fault("man " + word + " 1 2;", 1, 4);
            Check.fault("excuse " + word + " 1 2 3 4;", 1, 7);
            Check.fault("man a 1 2;duty " + word + " a 1 2;", 1, 15);
            Check.fault("test " + word + ";", 1, 5);
            Check.fault("man " + word + "x 1 2;man x" + word + " 1 2;", 0, -1);
        }
    }

    private static void ints() {
        Doc.term("INTS (1 to 4 digits)");
        for (char b = 0; b < 256; b++) {
            Check.fault("rain " + b + ";", isDigit(b) ? 0 : 1, isBlank(b) ? 6 : 5);
        }
        Check.fault("seed 1;seed 12;seed 123;seed 1234;seed 0000;", 0, -1);
        Check.fault("seed 12345;", 1, 5);
        Check.fault("seed 00000;", 1, 5);
        Check.fault("man a 0009 0002;", 0, -1);
        Check.fault("man a 9999 2;", 5, 6);
        Check.due("zeros ahead", Check.reader("man a 0009 0002;").man(0, 0), 9);
    }

    private static void signs() {
        Doc.term("SIGNS ; = + - * / < ( ) .");
        for (char b = 0; b < 256; b++) {
            boolean joins = b == '+' || b == '-' || b == '*' || b == '/' || isDigit(b);
            Check.fault("passes = 1" + b + "1;", joins ? 0 : 1, isBlank(b) || b == ';' ? 11 : 10);
            Check.fault("passes = if 1" + b + "1 then 2 else 3;", b == '<' ? 0 : 1,
                joins ? 16 : isBlank(b) ? 14 : 13);
            Check.fault("wears " + b + " 1;", b == '=' ? 0 : 1, isBlank(b) ? 8 : 6);
            Check.fault("wears = " + b + "1);", b == '(' ? 0 : 1, isBlank(b) || isDigit(b) ? 10 : 8);
            Check.fault("wears = (1" + b + ";", b == ')' ? 0 : 1, joins || isBlank(b) ? 11 : 10);
            Check.fault("rain 1" + b, b == ';' ? 0 : 1, isBlank(b) || isDigit(b) ? 7 : 6);
        }
    }

    private static void noTokens() {
        Doc.term("A longer one, all else, is no TOKEN.");
        Check.fault("man a 12345", 1, 6);
        Check.fault("man abcdefghijklmnopq", 1, 4);
        Check.fault("man a 1 2;abcdefghi", 1, 10);
        Check.fault("man a 1 2;man#", 1, 13);
        Check.fault("man a 1.2;", 1, 7);
        Check.fault("man a 1,2;", 1, 7);
        Check.fault("man A 1 2;", 1, 4);
        Check.fault("man a_ 1 2;", 1, 5);
        Check.fault("passes = day % 2;", 1, 13);
        Check.fault("passes = if 1 > 2 then 3 else 4;", 1, 14);
        Check.fault("passes = 'day';", 1, 9);
    }

    /** A TELL is sound; cut short behind any of its TOKENS, or with one ahead of it that none goes on with, it is not. */
    private static void tell(String ahead, String tell) {
        Check.fault(ahead + tell, 0, -1);
        StringBuilder sofar = new StringBuilder(ahead);
        for (String token : tell.split(" ")) {
            int place = sofar.length();
            for (String none : new String[] {"#", ")", "abcdefghi", "12345"}) {
                Check.fault(sofar + none + " " + token, 1, place);
            }
            if (place > ahead.length()) {
                Check.fault(sofar.toString(), 1, place);
                Check.fault(sofar.substring(0, place - 1), 1, place - 1);
            }
            sofar.append(token).append(' ');
        }
        Check.fault(sofar + "#", 1, sofar.length());
    }

    private static void tells() {
        Doc.term("text: {TELL}.");
        Check.fault("", 0, -1);
        Check.fault(" \t\r\n", 0, -1);
        Check.fault(";", 1, 0);
        Check.fault("rain 1;;", 1, 7);
        Check.fault("rain 1;rain 2;rain 3;", 0, -1);
        for (String word : "a once if then else day 1 ( = other".split(" ")) {
            Check.fault(word, 1, 0);
            Check.fault("rain 1;" + word, 1, 7);
        }
        Doc.term("TELL: 'man' NAME INT INT ';' |");
        tell("", "man a 1 2 ;");
        Check.fault("man 1 2;", 1, 4);
        Check.fault("man a 2;", 1, 7);
        Check.fault("man a 1 2 3;", 1, 10);
        Check.fault("man a b 1 2;", 1, 6);
        Doc.term("'excuse' NAME INT INT INT INT ['once'] ';' |");
        tell("", "excuse a 1 2 3 4 ;");
        tell("", "excuse a 1 2 3 4 once ;");
        Check.fault("excuse a 1 2 3 once;", 1, 15);
        Check.fault("excuse a 1 2 3 4 5;", 1, 17);
        Check.fault("excuse a 1 2 3 4 once 5;", 1, 22);
        Check.fault("excuse a once 1 2 3 4;", 1, 9);
        Doc.term("'duty' NAME NAME INT INT ';' |");
        tell("man m 1 1;", "duty d m 1 2 ;");
        Check.fault("man m 1 1;duty d 1 2;", 1, 17);
        Check.fault("man m 1 1;duty d m 1;", 1, 20);
        Check.fault("man m 1 1;duty d m m 1 2;", 1, 19);
        Check.fault("man m 1 1;duty d m 1 2 3;", 1, 23);
        Doc.term("'knows' NAME NAME ';' |");
        tell("man m 1 1;man n 1 1;", "knows m n ;");
        Check.fault("man m 1 1;man n 1 1;knows m;", 1, 27);
        Check.fault("man m 1 1;man n 1 1;knows m n n;", 1, 30);
        Doc.term("'test' NAME {NAME} ';' |");
        tell("", "test t ;");
        tell("excuse e 1 1 1 1;excuse f 1 1 1 1;", "test t f e ;");
        Check.fault("test ;", 1, 5);
        Check.fault("test t 1;", 1, 7);
        Doc.term("('passes' | 'wears') LAW ';' |");
        tell("", "passes = 1 ;");
        tell("", "wears = 1 ;");
        Check.fault("passes 1;", 1, 7);
        Check.fault("passes = ;", 1, 9);
        Check.fault("passes wears = 1;", 1, 7);
        Doc.term("'rain' INT ';' | 'coins' INT ';' | 'seed' INT ';'.");
        for (String word : new String[] {"rain", "coins", "seed"}) {
            tell("", word + " 1 ;");
            Check.fault(word + ";", 1, word.length());
            Check.fault(word + " 1 2;", 1, word.length() + 3);
            Check.fault(word + " day;", 1, word.length() + 1);
        }
    }

    private static void laws() {
        Doc.term("LAW: '=' {'if' E '<' E 'then' E 'else'} E.");
        tell("", "passes = if 1 < 2 then 3 else 4 ;");
        tell("", "wears = if 1 < 2 then 3 else if 4 < 5 then 6 else 7 ;");
        Check.fault("passes = if 1 then 2 else 3;", 1, 14);
        Check.fault("passes = if 1 < 2 3 else 4;", 1, 18);
        Check.fault("passes = if 1 < 2 then 3;", 1, 24);
        Check.fault("passes = if 1 < 2 then 3 else;", 1, 29);
        Check.fault("passes = if 1 < 2 < 3 then 3 else 4;", 1, 18);
        Check.fault("passes = if 1 < 2 then if 1 < 2 then 3 else 4 else 5;", 1, 23);
        Check.fault("passes = 1 + if 1 < 2 then 3 else 4;", 1, 13);
        Check.fault("passes = (if 1 < 2 then 3 else 4);", 1, 10);
        Check.fault("passes = 1 < 2;", 1, 11);
        Check.fault("passes = 1 else 2;", 1, 11);
        Check.fault("passes = 1 = 1;", 1, 11);
        Doc.term("E: PART {('+' | '-') PART}.");
        tell("", "passes = 1 + 2 - 3 + 4 ;");
        Check.fault("passes = -1;", 1, 9);
        Check.fault("passes = +1;", 1, 9);
        Check.fault("passes = 1 + ;", 1, 13);
        Check.fault("passes = 1 + - 1;", 1, 13);
        Doc.term("PART: UNIT {('*' | '/') UNIT}.");
        tell("", "passes = 1 * 2 / 3 * 4 ;");
        tell("", "passes = 1 + 2 * 3 - 4 / 5 ;");
        Check.fault("passes = *1;", 1, 9);
        Check.fault("passes = 1 * ;", 1, 13);
        Check.fault("passes = 1 * / 1;", 1, 13);
        Check.fault("passes = 1 * -1;", 1, 13);
        Doc.term("UNIT: INT | VAR | '(' E ')'.");
        Check.fault("passes = (1);wears = ((day + 1) * (2 - wet));", 0, -1);
        Check.fault("passes = ();", 1, 10);
        Check.fault("passes = (1;", 1, 11);
        Check.fault("passes = 1);", 1, 10);
        Check.fault("passes = (1 < 2);", 1, 12);
        Check.fault("passes = (1)(2);", 1, 12);
        Check.fault("passes = 1 2;", 1, 11);
        Check.fault("passes = 1 day;", 1, 11);
        Doc.term("VAR: 'day' | 'strong' | 'wear' | 'trust' | 'kind' | 'ago' | 'wet' | 'hours' | 'heard'.");
        for (String word : WORDS) {
            boolean isVariable = " day strong wear trust kind ago wet hours heard ".contains(" " + word + " ");
            Check.fault("passes = 1 + " + word + ";", isVariable ? 0 : 1, 13);
            Check.fault("passes = " + word + ";", isVariable ? 0 : 1, word.equals("if") ? 11 : 9);
        }
        Check.fault("passes = a;", 1, 9);
        Check.fault("passes = days;", 1, 9);
    }

    private static void men() {
        Doc.term("MEN, 5 at most (a NAME, TRUST 0 .. 99, MENDS 0 .. 9),");
        Check.fault(many("man ? 1 1;", 5), 0, -1);
        Check.fault(many("man ? 1 1;", 6), 2, 50);
        Check.fault("man a 0 0;man b 99 9;", 0, -1);
        Check.fault("man a 100 0;", 5, 6);
        Check.fault("man a 0 10;", 5, 8);
        ExcuseMarket x = Check.reader("man a 0 9;man b 99 0;man c 1 2;man d 3 4;man e 5 6;");
        int[] due = {0, 9, 99, 0, 1, 2, 3, 4, 5, 6};
        for (int i = 0; i < due.length; i++) {
            Check.due("man " + i / 2 + " " + i % 2, x.man(i / 2, i % 2), due[i]);
        }
        Check.due("MEN", x.count(0), 5);
    }

    private static void excuses() {
        Doc.term("EXCUSES, 7 at most (a NAME, PRICE 0 .. 99, GOOD till day 0 .. 99, KIND 0 .. 9, how STRONG 0 .. 99, whether for ONCE),");
        Check.fault(many("excuse ? 1 1 1 1;", 7), 0, -1);
        Check.fault(many("excuse ? 1 1 1 1;", 8), 2, 119);
        Check.fault(many("excuse ? 1 1 1 1 once;", 8), 2, 154);
        Check.fault("excuse a 0 0 0 0;excuse b 99 99 9 99 once;", 0, -1);
        Check.fault("excuse a 100 0 0 0;", 5, 9);
        Check.fault("excuse a 0 100 0 0;", 5, 11);
        Check.fault("excuse a 0 0 10 0;", 5, 13);
        Check.fault("excuse a 0 0 0 100;", 5, 15);
        ExcuseMarket x = Check.reader("excuse a 0 99 0 99;excuse b 99 0 9 0 once;" + many("excuse x? 1 2 3 4;", 5));
        int[][] due = {{0, 99, 0, 99}, {99, 0, 9, 0}, {1, 2, 3, 4}};
        for (int excuse = 0; excuse < 3; excuse++) {
            for (int what = 0; what < 4; what++) {
                Check.due("excuse " + excuse + " " + what, x.excuse(excuse, what), due[excuse][what]);
            }
        }
        Check.due("EXCUSES", x.count(1), 7);
        Check.due("the last one", x.excuse(6, 3), 4);
    }

    private static void duties() {
        Doc.term("DUTIES, 9 at most (a NAME, the MAN, the day 0 .. 99, HOURS 1 .. 9),");
        Check.fault("man x 1 1;" + many("duty ? x 1 1;", 9), 0, -1);
        Check.fault("man x 1 1;" + many("duty ? x 1 1;", 10), 2, 127);
        Check.fault("man m 1 1;duty a m 0 1;duty b m 99 9;", 0, -1);
        Check.fault("man m 1 1;duty a m 100 1;", 5, 19);
        Check.fault("man m 1 1;duty a m 1 0;", 5, 21);
        Check.fault("man m 1 1;duty a m 1 10;", 5, 21);
        ExcuseMarket x = Check.reader("man m 1 1;man n 1 1;duty a n 0 9;duty b m 99 1;" + many("duty x? n 7 8;", 7));
        int[][] due = {{1, 0, 9}, {0, 99, 1}, {1, 7, 8}};
        for (int duty = 0; duty < 3; duty++) {
            for (int what = 0; what < 3; what++) {
                Check.due("duty " + duty + " " + what, x.duty(duty, what), due[duty][what]);
            }
        }
        Check.due("DUTIES", x.count(2), 9);
        Check.due("the last one", x.duty(8, 2), 8);
    }

    private static void knows() {
        Doc.term("KNOWS, 8 at most (two MEN, either way),");
        String three = many("man ? 1 1;", 3);
        Check.fault(three + many("knows a b;", 4) + many("knows c a;", 4), 0, -1);
        Check.fault(three + many("knows a b;", 4) + many("knows c a;", 5), 2, 110);
        for (String told : new String[] {"knows a b;", "knows b a;", "knows a b;knows b a;knows a b;"}) {
            ExcuseMarket x = Check.reader(three + told);
            Check.due("a, either way", x.man(0, 2), 2);
            Check.due("b, either way", x.man(1, 2), 1);
            Check.due("c", x.man(2, 2), 0);
        }
        ExcuseMarket x = Check.reader(many("man ? 1 1;", 5) + "knows a b;knows a c;knows a d;knows a e;knows b c;knows e b;"
            + "knows d c;knows e d;");
        int[] due = {30, 21, 11, 21, 11};
        for (int man = 0; man < 5; man++) {
            Check.due("all eight of " + man, x.man(man, 2), due[man]);
        }
        x = new ExcuseMarket();
        for (int round = 0; round < 4; round++) {
            Check.type(x, three + many("knows a b;", 8));
            Check.due("eight KNOWS each time", x.read(), 0);
        }
    }

    private static void tests() {
        Doc.term("TESTS, 6 at most (a NAME, EXCUSES with which it rings),");
        Check.fault(many("test ?;", 6), 0, -1);
        Check.fault(many("test ?;", 7), 2, 42);
        String seven = many("excuse ? 1 1 1 1;", 7);
        ExcuseMarket x = Check.reader(seven + "test ta;test tb;test tc g e c a;test td b c f g;test te d e f g;test tf a b c d e f g;");
        Check.due("TESTS", x.count(3), 6);
        Check.due("those that tell all apart", x.apart(1), 4 + 8 + 16);
        Check.fault(seven + "test t a b c d e f g h;", 4, 140);
    }

    private static void numbers() {
        Doc.term("numbered each from 0 on as they stand.");
        ExcuseMarket x = Check.reader("excuse z 5 1 1 1;man y 6 1;test x z;duty w y 7 1;man b 8 2;excuse a 9 2 2 2;test d a;"
            + "duty c b 4 3;man e 3 3;knows e b;");
        Check.due("excuse 0", x.excuse(0, 0), 5);
        Check.due("excuse 1", x.excuse(1, 0), 9);
        Check.due("man 0", x.man(0, 0), 6);
        Check.due("man 1", x.man(1, 0), 8);
        Check.due("man 2", x.man(2, 0), 3);
        Check.due("man 1's friends", x.man(1, 2), 4);
        Check.due("duty 0", x.duty(0, 1), 7);
        Check.due("duty 1", x.duty(1, 1), 4);
        Check.due("its MAN", x.duty(1, 0), 1);
        Check.due("the least bits", x.apart(1), 1);
        Check.due("more of them", x.count(0) * 1000 + x.count(1) * 100 + x.count(2) * 10 + x.count(3), 3222);
    }

    private static void sorts(ExcuseMarket x, int men, int excuses, int duties) {
        for (int i = 0; i < 10; i++) {
            boolean isMan = i < men;
            boolean isExcuse = i < excuses;
            boolean isDuty = i < duties;
            Check.due("man " + i, x.man(i, 3) == 0, isMan);
            Check.due("excuse " + i, x.excuse(i, 5) == 0, isExcuse);
            Check.due("duty " + i, x.duty(i, 4) == 0, isDuty);
            Check.due("told to " + i, x.told(0, i, false), isMan ? 0 : -1);
            Check.due("told of " + i, x.told(i, 0, true), isExcuse ? -2 : -1);
            Check.due("pass of " + i, x.pass(i, 0), isExcuse ? 100 : -1);
            Check.due("pass for " + i, x.pass(0, i), isDuty ? 100 : -1);
            Check.due("calm of " + i, x.calm(i, 0, 100), isExcuse ? 0 : -1);
            Check.due("calm with " + i, x.calm(0, i, 100), isMan ? 0 : -1);
            Check.due("trust of " + i, x.trust(i, 0), isMan ? 50 : -1);
            Check.due("rumour from " + i, x.rumour(i, 0), isMan ? 1 << i : -1);
            Check.due("cheapest for " + i, x.cheapest(1 << i, 100) >= 0, isDuty);
            Check.due("fits of " + i, x.fits(i, 0) > 0, isMan);
            Check.due("know of " + i, x.know(i, 0, 9) >= 0, isExcuse);
            Check.due("know to " + i, x.know(0, i, 9) >= 0, isMan);
            Check.due("buy " + i, x.buy(i) >= 0, isExcuse);
            Check.due("plan of " + i, x.plan(0, i), isExcuse);
            Check.due("plan for " + i, x.plan(i, 0), isDuty && i > 0);
            x.forget();
        }
    }

    private static void manyMen() {
        Doc.term("numbered each from 0 on as they stand.");
        String text = many("man ? 50 0;", 5) + "excuse x 1 9 1 1;duty y d 0 4;duty z e 0 5;knows d e;passes = 100;wears = 3 * heard + 1;";
        sorts(Check.reader(text), 5, 1, 2);
        ExcuseMarket x = AheadSentences.owner(text.replace("excuse x 1 9 1 1;", "excuse x 1 9 1 1;excuse w 1 9 2 1;"), 0, 1);
        x.plan(0, 0);
        x.plan(1, 1);
        x.days(1);
        Check.due("the first to hear", x.man(3, 0), 49);
        Check.due("the other one", x.man(4, 0), 46);
        Check.due("TWO THINGS", x.two(0), 34);
    }

    private static void manyExcuses() {
        Doc.term("numbered each from 0 on as they stand.");
        String text = "man x 50 0;" + many("excuse ? 1 9 1 1;", 7) + "duty y x 0 4;duty z x 0 5;passes = 100;wears = wear + 1;";
        sorts(Check.reader(text), 1, 7, 2);
        ExcuseMarket x = AheadSentences.owner(text, 6);
        x.plan(0, 6);
        x.plan(1, 6);
        x.days(1);
        Check.due("the last EXCUSE twice", x.told(6, 0, false), 2);
        Check.due("by its WEARS", x.man(0, 0), 47);
        x = AheadSentences.owner("man x 50 0;man y 50 0;knows x y;" + many("excuse ? 1 9 1 1;", 6) + "excuse g 1 9 2 1;"
            + "duty h x 0 4;duty i y 0 5;"
            + "passes = 100;wears = 3 * heard + 1;", 5, 6);
        x.plan(0, 5);
        x.plan(1, 6);
        x.days(1);
        Check.due("the first to hear", x.man(0, 0), 49);
        Check.due("the other one", x.man(1, 0), 46);
        Check.due("TWO THINGS", x.two(0), 1);
    }

    private static void manyDuties() {
        Doc.term("numbered each from 0 on as they stand.");
        String men = "man x 50 0;man y 50 0;knows x y;excuse v 1 9 1 1;excuse w 1 9 2 1;";
        sorts(Check.reader(men + many("duty ? x 0 1;", 9) + "passes = 100;"), 2, 2, 9);
        ExcuseMarket x = AheadSentences.owner(men + many("duty ? x 8 4;", 7) + "duty p x 1 4;duty q y 1 5;passes = 100;"
            + "wears = 3 * heard + 1;", 0, 1);
        x.plan(7, 0);
        x.plan(8, 1);
        x.days(2);
        Check.due("the first to hear", x.man(0, 0), 49);
        Check.due("the other one", x.man(1, 0), 46);
        Check.due("TWO THINGS", x.two(0), 1);
        Check.due("FREE", x.count(8), 384);
    }

    private static void lawsNotTold() {
        Doc.term("LAWS: PASSES (50), WEARS (10), if not told; the last one.");
        String text = "man m 50 0;excuse e 1 9 1 1;duty d m 0 1;";
        Check.due("PASSES not told", Check.reader(text).pass(0, 0), 50);
        Check.due("PASSES not told, WEARS is", Check.reader(text + "wears = 7;").pass(0, 0), 50);
        Check.due("PASSES told last", Check.reader(text + "passes = 99;passes = 7;").pass(0, 0), 7);
        Check.due("WEARS not told", trustAfterFree(text + "passes = 100;"), 40);
        Check.due("WEARS told last", trustAfterFree(text + "wears = 30;passes = 3;passes = 100;wears = 8;"), 42);
        Check.due("a shorter one last", trustAfterFree(text + "wears = if 1 < 2 then 3 + 4 else 5;passes = 100;wears = 8;"), 42);
    }

    private static int trustAfterFree(String text) {
        ExcuseMarket x = Check.reader(text);
        x.buy(0);
        x.plan(0, 0);
        x.days(1);
        Check.due("free", x.count(8), 1);
        return x.man(0, 0);
    }

    /** LOT 100 on day 0 is 0 of seed 9999, 40 of seed 0. */
    private static void settings() {
        Doc.term("RAIN 0 .. 100 (0), COINS 0 .. 999 (50), SEED 0 .. 9999 (0): the last one.");
        Check.fault("rain 0;rain 100;coins 0;coins 999;seed 0;seed 9999;", 0, -1);
        Check.fault("rain 101;", 5, 5);
        Check.fault("rain 9999;", 5, 5);
        Check.fault("coins 1000;", 5, 6);
        Check.fault("seed 10000;", 1, 5);
        Check.due("RAIN not told", Check.reader("seed 9999;").rains(0), 0);
        Check.due("RAIN told last", Check.reader("seed 9999;rain 0;rain 1;").rains(0), 1);
        Check.due("RAIN told last", Check.reader("seed 9999;rain 1;rain 0;").rains(0), 0);
        Check.due("COINS not told", Check.reader("").count(5), 50);
        Check.due("COINS told last", Check.reader("coins 999;coins 0;").count(5), 0);
        Check.due("COINS told last", Check.reader("coins 0;coins 999;").count(5), 999);
        Check.due("SEED not told", Check.reader("rain 40;").rains(0), 0);
        Check.due("SEED not told", Check.reader("rain 41;").rains(0), 1);
        Check.due("SEED told last", Check.reader("rain 1;seed 0;seed 9999;").rains(0), 1);
        Check.due("SEED told last", Check.reader("rain 1;seed 9999;seed 0;").rains(0), 0);
    }
}
