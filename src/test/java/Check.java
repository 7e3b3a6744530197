import java.nio.charset.StandardCharsets;

/** Counts answers that are due and those that are not, for the tests beside it. */
final class Check {
    private static int right = 0;
    private static int wrong = 0;
    private static String sentence = "";

    private Check() {
    }

    /** Names the sentence of the document that the next answers stand for. */
    static void sentence(String words) {
        sentence = words;
    }

    static void due(String what, long got, long want) {
        if (got == want) {
            right++;
        } else {
            wrong++;
            System.out.println(what + " answered " + got + ", due is " + want + "  [" + sentence + "]");
        }
    }

    static void due(String what, boolean got, boolean want) {
        due(what, got ? 1 : 0, want ? 1 : 0);
    }

    /** Puts bytes onto the tape: in twenties, and the rest of the last one goes back again. */
    static void type(ExcuseMarket x, byte[] bytes) {
        int over = (20 - bytes.length % 20) % 20;
        byte[] all = java.util.Arrays.copyOf(bytes, bytes.length + over);
        for (int i = 0; i < all.length; i += 20) {
            x.feed(word(all, i), word(all, i + 4), word(all, i + 8), word(all, i + 12), word(all, i + 16));
        }
        x.back(over);
    }

    static void type(ExcuseMarket x, String text) {
        type(x, text.getBytes(StandardCharsets.ISO_8859_1));
    }

    private static int word(byte[] all, int i) {
        return (all[i] & 255) << 24 | (all[i + 1] & 255) << 16 | (all[i + 2] & 255) << 8 | (all[i + 3] & 255);
    }

    /** A new object that has read a text without a fault. */
    static ExcuseMarket reader(String text) {
        ExcuseMarket x = new ExcuseMarket();
        type(x, text);
        due("read of " + text, x.read(), 0);
        return x;
    }

    /** A text has its fault at its place; an object with another text goes on as if nothing was read. */
    static void fault(String text, int fault, int place) {
        ExcuseMarket x = reader("man old 7 3; excuse lie 4 9 2 5; coins 9;");
        x.buy(0);
        x.say(1, 2, 3, 4);
        type(x, text);
        due("read of " + text, x.read(), fault);
        due("place of " + text, x.place(), fault == 0 ? ExcuseMarket.NONE : place);
        due("tape behind " + text, x.count(11), 0);
        if (fault != 0) {
            due("men behind " + text, x.count(0), 1);
            due("trust behind " + text, x.man(0, 0), 7);
            due("coins behind " + text, x.count(5), 5);
            due("undone behind " + text, x.count(12), 1);
            due("said behind " + text, x.count(13), 1);
        }
    }

    static void end(String name) {
        System.out.println(name + ": " + right + " answers as due, " + wrong + " not");
        if (wrong != 0 || right == 0) {
            System.exit(1);
        }
    }
}
