import java.nio.charset.StandardCharsets;

/** What the tests share: telling answers that are not due, and feeding texts. */
final class Due {
    private final String test;
    private int wrong;
    private int seen;

    Due(String test) {
        this.test = test;
    }

    void is(String call, long got, long want) {
        seen++;
        if (got != want) {
            wrong++;
            if (wrong <= 20) {
                System.out.println(test + ": " + call + " answered " + got + ", due is " + want);
            }
        }
    }

    boolean allRight() {
        return wrong == 0;
    }

    void close() {
        System.out.println(test + ": " + seen + " answers, " + wrong + " not as due");
        if (wrong != 0) {
            System.exit(1);
        }
    }

    static int four(byte[] bytes, int at) {
        int number = 0;
        for (int i = at; i < at + 4; i++) {
            number = number << 8 | (i < bytes.length ? bytes[i] & 255 : ' ');
        }
        return number;
    }

    /** THE TAPE holds just this then (it held nothing before). */
    static void feed(HayBoard board, String text) {
        byte[] bytes = text.getBytes(StandardCharsets.ISO_8859_1);
        for (int i = 0; i < bytes.length; i += 12) {
            board.feed(four(bytes, i), four(bytes, i + 4), four(bytes, i + 8));
        }
        board.trim(bytes.length);
    }

    static int text(HayBoard board, String text) {
        feed(board, text);
        return board.text();
    }
}
