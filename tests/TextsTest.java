/** Promises 25 to 29, and section 4. */
public final class TextsTest {
    private static final int BAD = HayBoard.BAD, FULL = HayBoard.FULL, NONE = HayBoard.NONE;
    private static final Due DUE = new Due("TextsTest");

    public static void main(String[] args) {
        feed();
        trim();
        text();
        faults();
        opened();
        gives();
        textTold();
        why();
        DUE.close();
    }

    private static void feed() {
        HayBoard x = new HayBoard();
        for (int i = 1; i <= 8; i++) {
            DUE.is("feed " + i, x.feed(0, -1, 7), 12 * i);
        }
        DUE.is("more than 96", x.feed(0, 0, 0), FULL);
        DUE.is("96 stay", x.count(8), 96);
        x.trim(85);
        DUE.is("97 would be too many", x.feed(0, 0, 0), FULL);
        x.trim(84);
        DUE.is("96 are not", x.feed(0, 0, 0), 96);
        // The highest byte first, a number at a time: "hay ", "1+2 ", "+34 ".
        x.trim(0);
        x.feed(0x68617920, 0x312b3220, 0x2b333420);
        DUE.is("a text", x.text(), 0);
        x.bale(0, 0, 0, 1);
        DUE.is("its bytes in order", x.told(0, 6), 37);
    }

    private static void trim() {
        HayBoard x = new HayBoard();
        DUE.is("none to none", x.trim(0), 0);
        DUE.is("more than there are", x.trim(1), BAD);
        Due.feed(x, "fee 1234");
        DUE.is("-1", x.trim(-1), BAD);
        DUE.is("9 of 8", x.trim(9), BAD);
        DUE.is("8 of 8", x.trim(8), 8);
        DUE.is("7 of 8", x.trim(7), 7);
        DUE.is("count", x.count(8), 7);
        DUE.is("the first stay", x.text(), 0);
        DUE.is("123", x.fee(), 123);
        Due.feed(x, "fee 99999999");
        x.trim(4);
        x.feed(0x35202020, 0x20202020, 0x20202020);
        DUE.is("more comes behind what stayed", x.text(), 1);
        DUE.is("5", x.fee(), 5);
    }

    private static void text() {
        HayBoard x = new HayBoard();
        DUE.is("an empty tape", x.text(), -100);
        Due.feed(x, "hay 1");
        x.text();
        DUE.is("used up", x.count(8), 0);
        DUE.is("empty again", x.text(), -100);
        Due.feed(x, "hay +");
        DUE.is("a fault", x.text(), -104);
        DUE.is("used up with a fault", x.count(8), 0);
        for (int i = 1; i < 14; i++) {
            DUE.is("text " + i, Due.text(x, "fee " + i), i);
        }
        DUE.is("a fault ahead of FULL", Due.text(x, "fee"), -103);
        DUE.is("the fifteenth", Due.text(x, "fine 3"), FULL);
        DUE.is("used up when it is full", x.count(8), 0);
        DUE.is("14 texts", x.count(6), 14);
        DUE.is("the last one counts", x.fee(), 13);
        DUE.is("the one that was too many does not", x.why(2), NONE);
    }

    private static void faulty(String text, int place) {
        DUE.is("'" + text + "'", Due.text(new HayBoard(), text), -100 - place);
    }

    private static void right(String text) {
        DUE.is("'" + text + "'", Due.text(new HayBoard(), text), 0);
    }

    private static void faults() {
        faulty("   ", 3);
        faulty("hay", 3);
        faulty(" hay  ", 6);
        faulty("  hays h", 2);
        faulty("ha y h", 0);
        faulty("Hay h", 0);
        faulty("bay h", 0);
        faulty("hoy h", 0);
        faulty("hag h", 0);
        faulty("wine h", 0);
        faulty("find h", 0);
        faulty("fin h", 0);
        faulty("fees d", 0);
        faulty("hayz h", 0);
        faulty("haya h", 0);
        faulty("1 hay h", 0);
        faulty("(hay h)", 0);
        faulty("hayh", 0);
        faulty("hay3", 3);
        right("hay 3");
        right("hay(3)");
        right("hay!3");
        right("  hay h  ");
        right("hay   ( h+p )*w");
        right("hay h+p*w-1/2");
        faulty("hayA", 3);
        faulty("hay\th", 3);
        faulty("hay \u00e9", 4);
        faulty("hay h\u0000", 5);
        faulty("hay hp", 4);
        faulty("hay h p", 6);
        faulty("hay h3", 5);
        faulty("hay 3h", 5);
        faulty("hay 3 3", 6);
        right("hay 9999");
        right("hay 0000");
        faulty("hay 00000", 4);
        faulty("hay 1+12345", 6);
        faulty("hay h+", 6);
        faulty("hay h +  ", 9);
        faulty("hay h+)", 6);
        faulty("hay )", 4);
        faulty("hay h)", 5);
        faulty("hay (h", 6);
        faulty("hay (h ", 7);
        faulty("hay (h))", 7);
        faulty("hay ()", 5);
        faulty("hay !", 5);
        faulty("hay !+h", 5);
        faulty("hay h!", 5);
        faulty("hay h(p)", 5);
        faulty("hay (h)p", 7);
        faulty("hay (h)(p)", 7);
        faulty("hay -1", 4);
        faulty("hay h+-1", 6);
        faulty("hay h==1", 6);
        faulty("hay h<=1", 6);
        faulty("hay h<p<w", 7);
        faulty("hay h=p>w", 7);
        right("hay h<p&p<w|w=1");
        right("hay (h<p)<w");
        right("hay h<(p<w)");
        faulty("hay (h<p<w)", 8);
        right("hay !h<p");
        right("hay h<!p");
        faulty("hay h,p", 5);
        faulty("hay h~", 5);
        faulty("hay `", 4);
        faulty("hay {", 4);
        faulty("hay h:", 5);
        namesOfEach();
    }

    private static void namesOfEach() {
        String[] keys = {"hay", "fee", "fine"};
        String[] names = {"hpw", "dt", "wh"};
        for (int key = 0; key < 3; key++) {
            for (char c = 'a'; c <= 'z'; c++) {
                String text = keys[key] + " " + c;
                if (names[key].indexOf(c) >= 0) {
                    right(text);
                } else {
                    faulty(text, keys[key].length() + 1);
                }
            }
        }
        for (int c = 0; c < 256; c++) {
            if ("()!".indexOf(c) < 0 && c != ' ' && !Character.isDigit(c) && "hpw".indexOf(c) < 0) {
                faulty("hay " + (char) c, 4);
            }
        }
    }

    private static void opened() {
        right("hay " + "(".repeat(8) + "h" + ")".repeat(8));
        faulty("hay " + "(".repeat(9) + "h" + ")".repeat(9), 12);
        right("hay " + "!".repeat(8) + "h");
        faulty("hay " + "! ".repeat(9) + "h", 20);
        right("hay " + "!(".repeat(8) + "h" + ")".repeat(8));
        faulty("hay " + "!(".repeat(8) + "!h" + ")".repeat(8), 20);
        faulty("hay " + "!(".repeat(8) + "(h" + ")".repeat(9), 20);
        faulty("hay !!!!!!!!(!h)", 13);
        // What is closed is not open any more.
        right("hay " + "(h)+".repeat(12) + "h");
        right("hay " + "!h+".repeat(12) + "h");
        right("hay !!!!!!!!h+!!!!!!!!h");
        right("hay (!!!!(h)*!!!!!!!!p)");
        right("hay ((((((((h))))))))+((((((((h))))))))");
        right("hay !!!!(!!!!h*!!!!h)");
        faulty("hay !!!!(!!!!h*!!!!!h)", 19);
    }

    private static void given(String expression, int want) {
        HayBoard x = new HayBoard();
        x.days(7);
        DUE.is("'" + expression + "'", Due.text(x, "fee " + expression), 0);
        DUE.is("what '" + expression + "' gives", x.fee(), want);
    }

    /** On day 7, turn 1. */
    private static void gives() {
        given("d", 7);
        given("t", 1);
        given("0012", 12);
        given("1+2*3", 7);
        given("(1+2)*3", 9);
        given("10-3-2", 5);
        given("10-(3-2)", 9);
        given("100/7/2", 7);
        given("100/(7/2)", 33);
        given("2*7/3", 4);
        given("(0-7)/2", -3);
        given("7/(0-2)", -3);
        given("7/0", 0);
        given("0/0", 0);
        given("1+2<2+2", 1);
        given("2<2", 0);
        given("2>2", 0);
        given("2=2", 1);
        given("3>2", 1);
        given("3=2", 0);
        given("(0-1)<0", 1);
        given("5&7", 1);
        given("5&0", 0);
        given("0|9", 1);
        given("0|0", 0);
        given("9|0", 1);
        given("1|1&0", 1);
        given("(1|1)&0", 0);
        given("1&0|1", 1);
        given("2&(0-2)", 1);
        given("!0", 1);
        given("!5", 0);
        given("!!5", 1);
        given("!0*5", 5);
        given("!0+5", 6);
        given("!(0+5)", 0);
        given("0=!1", 1);
        given("d*t+d", 14);
        given("1<2&2<3", 1);
        given("9999*9999*9999", 9999 * 9999 * 9999);
        given("(0-9999)*9999*9999-9999*9999*9", -9999 * 9999 * 9999 - 9999 * 9999 * 9);
        // The least int by -1 wraps: 2^31 = 8192 * 8192 * 32.
        given("8192*8192*32", Integer.MIN_VALUE);
        given("8192*8192*32/(0-1)", Integer.MIN_VALUE);
        given("8192*8192*32-1", Integer.MAX_VALUE);
        given("d" + "+1".repeat(45), 52);
        HayBoard x = new HayBoard();
        x.bale(0, 0, 0, 9);
        x.days(5);
        Due.text(x, "hay 0+h*100+w*10+p");
        DUE.is("hay by all its names, and 0", x.told(0, 6), 900 + 30 + 1);
    }

    private static void textTold() {
        HayBoard x = new HayBoard();
        DUE.is("no texts", x.textTold(0, 0), BAD);
        Due.text(x, "fine w+h*(3-w)/12=!h");
        Due.text(x, "hay 1");
        Due.text(x, "fee d+d");
        int[][] want = {{2, 6}, {0, 1}, {1, 2}};
        for (int text = 0; text < 3; text++) {
            for (int what = 0; what < 2; what++) {
                DUE.is("textTold(" + text + ", " + what + ")", x.textTold(text, what), want[text][what]);
            }
        }
        DUE.is("text 3", x.textTold(3, 0), BAD);
        DUE.is("text -1", x.textTold(-1, 0), BAD);
        DUE.is("what 2", x.textTold(0, 2), BAD);
        DUE.is("what -1", x.textTold(0, -1), BAD);
    }

    private static void why() {
        HayBoard x = new HayBoard();
        DUE.is("key -1", x.why(-1), BAD);
        DUE.is("key 3", x.why(3), BAD);
        DUE.is("none", x.why(2), NONE);
        Due.text(x, "fine 1");
        Due.text(x, "hay 1");
        Due.text(x, "fine 2");
        DUE.is("fine", x.why(2), 2);
        DUE.is("hay", x.why(0), 1);
        DUE.is("fee", x.why(1), NONE);
        x.keep();
        Due.text(x, "fine 3");
        Due.text(x, "fee 4");
        DUE.is("fine, the third", x.fine(0), BAD);
        DUE.is("fee", x.fee(), 4);
        x.back();
        DUE.is("fine as the image", x.why(2), 2);
        DUE.is("fee as the image", x.why(1), NONE);
        DUE.is("fee is the day", x.fee(), 0);
        DUE.is("numbers go on from the image's", Due.text(x, "fee 5"), 3);
        DUE.is("fee", x.fee(), 5);
    }
}
