import java.util.List;
import java.util.Random;

/** Runs of calls drawn by fixed seeds: the class answers as PlainBoard does, in every call. */
public final class LikePlainTest {
    private static final int[] ODD = {-1, 0, 1, 2, 3, 5, 6, 11, 12, 13, 24, 25, 30, 31, 35, 36, 37, 40, 41, 99, 100, 101,
        -100, 32767, 32768, -32769, 65536, 99999, 100000, -99999, -100000, Integer.MAX_VALUE, Integer.MIN_VALUE,
        HayBoard.NONE};
    private static final String[] CHEAP = {"bale", "told", "at", "goes", "as", "turns", "set", "rule", "deal", "seed",
        "move", "moves", "best", "threats", "lead", "days", "behind", "fee", "fine", "feed", "trim", "text",
        "textTold", "why", "sheet", "mark", "pour", "reads", "copy", "lay", "ask", "item", "rest", "tell",
        "check", "keep", "back", "count"};
    private static final String[] DEAR = {"best", "ends", "spared", "given", "storm", "behind", "check"};

    // What an object answers after its 512th call is free; a step below makes less than a hundred calls.
    private static final int MOST_CALLS = 500;

    private final Due due;
    private final Random lot;
    private final HayBoard board = new HayBoard();
    private final PlainBoard plain = new PlainBoard();
    private final StringBuilder run = new StringBuilder();
    private int calls;
    // Whether the numbers of a call are all drawn from the odd ones.
    private boolean wild;

    private LikePlainTest(Due due, long seed) {
        this.due = due;
        lot = new Random(seed);
        run.append("seed ").append(seed).append(": ");
    }

    public static void main(String[] args) {
        Due due = new Due("LikePlainTest");
        int runs = args.length > 0 ? Integer.parseInt(args[0]) : 200;
        for (int seed = 0; seed < runs && due.allRight(); seed++) {
            new LikePlainTest(due, seed).play(seed % 4 == 0 ? MOST_CALLS - 100 : 150);
        }
        due.close();
    }

    private void play(int most) {
        call("seed", lot.nextInt());
        if (lot.nextInt(3) > 0) {
            call("deal", 1 + lot.nextInt(12));
        }
        if (lot.nextInt(2) == 0) {
            call("rule", 1, lot.nextInt(101));
            call("rule", 2, lot.nextInt(101));
        }
        while (calls < most && due.allRight()) {
            wild = lot.nextInt(12) == 0;
            switch (lot.nextInt(16)) {
                case 0: feedText(); call("text"); break;
                case 1: tellDays(); break;
                case 2: makeAMove(); break;
                case 3: markPlaces(); break;
                case 4: drawnCall(DEAR[lot.nextInt(DEAR.length)]); break;
                default: drawnCall(CHEAP[lot.nextInt(CHEAP.length)]);
            }
        }
        for (int what = 0; what < 10; what++) {
            call("count", what);
        }
    }

    private void call(String name, int... a) {
        calls++;
        run.append(name);
        for (int v : a) {
            run.append(' ').append(v);
        }
        run.append("; ");
        String tail = run.length() > 3000 ? run.substring(run.length() - 3000) : run.toString();
        int want = plain.ask(name, a);
        int got;
        try {
            got = Face.answer(board, name, a);
        } catch (RuntimeException e) {
            System.out.println(tail);
            throw e;
        }
        due.is(got == want ? name : tail, got, want);
    }

    private void drawnCall(String name) {
        switch (name) {
            case "bale": call(name, upTo(5), upTo(1), upTo(35), 1 + upTo(98)); break;
            case "told": call(name, aBale(), upTo(8)); break;
            case "at": call(name, upTo(35)); break;
            case "goes": case "move": call(name, aBale(), upTo(35)); break;
            case "as": case "turns": call(name, aBale(), upTo(5)); break;
            case "set": {
                int what = 1 + upTo(2);
                call(name, aBale(), what, what == 1 ? upTo(1) : what == 2 ? upTo(36) : 1 + upTo(98));
                break;
            }
            case "rule": {
                int what = upTo(2);
                call(name, what, what == 0 ? upTo(1) : upTo(100));
                break;
            }
            case "deal": call(name, 1 + upTo(11)); break;
            case "seed": case "tell": call(name, lot.nextInt()); break;
            case "moves": case "threats": case "lead": call(name, upTo(1)); break;
            case "best": call(name, upTo(1), 1 + upTo(1), upTo(1)); break;
            case "days": call(name, lot.nextInt(3) > 0 ? 1 + upTo(2) : 1 + upTo(39)); break;
            case "behind": call(name, upTo(40), lot.nextInt(2) == 0 ? upTo(2) : upTo(15)); break;
            case "spared": case "given": call(name, 1 + upTo(11), upTo(1)); break;
            case "storm": call(name, upTo(3), upTo(12), upTo(1)); break;
            case "fine": call(name, aBale()); break;
            case "feed": call(name, lot.nextInt(), lot.nextInt(), lot.nextInt()); break;
            case "trim": call(name, lot.nextInt(4) > 0 ? upTo(plain.tape.size()) : upTo(96)); break;
            case "textTold": call(name, upTo(13), upTo(1)); break;
            case "why": call(name, upTo(2)); break;
            case "sheet": call(name, upTo(3), upTo(2) - (lot.nextInt(2) == 0 ? 1 : 0), upTo(24)); break;
            case "mark": call(name, upTo(3), upTo(23), aNumber()); break;
            case "pour": case "reads": call(name, upTo(3)); break;
            case "copy": call(name, upTo(3), upTo(12), upTo(3), upTo(12), upTo(12)); break;
            case "lay": {
                int thing = upTo(3);
                call(name, upTo(4), thing, thing == 1 ? aBale() : thing == 2 ? upTo(3) : lot.nextInt());
                break;
            }
            case "ask": call(name, upTo(4), upTo(5)); break;
            case "item": call(name, upTo(4), upTo(23)); break;
            case "rest": call(name, upTo(4), lot.nextInt(2) == 0 ? upTo(9) - 4 : lot.nextInt()); break;
            case "check": call(name, 1 + upTo(29)); break;
            case "count": call(name, upTo(9)); break;
            default: call(name);
        }
    }

    /** 0 to most, now and then another number. */
    private int upTo(int most) {
        return wild || lot.nextInt(30) == 0 ? ODD[lot.nextInt(ODD.length)] : lot.nextInt(most + 1);
    }

    private int aBale() {
        return wild || lot.nextInt(20) == 0 ? upTo(12) : lot.nextInt(Math.max(1, plain.s.bales.size()));
    }

    private int aNumber() {
        int sort = lot.nextInt(8);
        return sort == 0 ? HayBoard.NONE : sort == 1 ? upTo(99) : sort == 2 ? lot.nextInt() : lot.nextInt(120) - 20;
    }

    private void makeAMove() {
        List<Integer> moves = plain.s.moves(plain.s.turn);
        if (!moves.isEmpty()) {
            int move = moves.get(lot.nextInt(moves.size()));
            call("move", move / 100, move % 100);
        }
    }

    /** A sheet tells the places of the bales, or nearly. */
    private void markPlaces() {
        int sheet = lot.nextInt(4);
        call("sheet", sheet, lot.nextInt(2), lot.nextInt(14));
        for (int k = 0; k < plain.s.bales.size(); k++) {
            call("mark", sheet, k, lot.nextInt(12) == 0 ? aNumber() : plain.s.bales.get(k).place);
        }
        call("reads", sheet);
        call("storm", sheet, lot.nextInt(4), lot.nextInt(2));
    }

    /** The numbers that check is to find right, now and then with one that is wrong, missing or too many. */
    private void tellDays() {
        if (plain.image == null || lot.nextInt(3) == 0) {
            call("keep");
        }
        int n = 1 + lot.nextInt(30);
        call("check", 1 + lot.nextInt(30));
        List<Integer> told = plain.daysTold(n);
        int wrongAt = lot.nextInt(3) == 0 ? lot.nextInt(told.size() + 1) : -1;
        int many = told.size() - (lot.nextInt(6) == 0 ? 1 : 0);
        for (int i = 0; i < many; i++) {
            call("tell", told.get(i) + (i == wrongAt ? 1 : 0));
        }
        if (lot.nextInt(6) == 0) {
            call("tell", lot.nextInt(3));
        }
        call("count", 7);
        call("check", n);
    }

    // ---- texts

    private void feedText() {
        String text = blanks() + (lot.nextInt(30) == 0 ? "hey" : new String[] {"hay", "fee", "fine"}[lot.nextInt(3)]);
        String names = text.endsWith("hay") ? "hpw" : text.endsWith("fee") ? "dt" : "wh";
        text += (lot.nextInt(15) == 0 ? "" : " ") + expression(names, lot.nextInt(5)) + blanks();
        if (lot.nextInt(4) == 0) {
            int at = lot.nextInt(text.length());
            String odd = "hpwdt0129 !()<=>+-*/&|#A\u00e9\u0000";
            char c = odd.charAt(lot.nextInt(odd.length()));
            text = text.substring(0, at) + c + text.substring(at + lot.nextInt(2));
        }
        if (lot.nextInt(8) == 0) {
            text = text.substring(0, lot.nextInt(text.length() + 1));
        }
        text = text.substring(0, Math.min(text.length(), 96));
        call("trim", 0);
        byte[] bytes = text.getBytes(java.nio.charset.StandardCharsets.ISO_8859_1);
        for (int i = 0; i < bytes.length; i += 12) {
            call("feed", Due.four(bytes, i), Due.four(bytes, i + 4), Due.four(bytes, i + 8));
        }
        call("trim", bytes.length);
    }

    private String blanks() {
        return " ".repeat(Math.max(0, lot.nextInt(4) - 2));
    }

    private String expression(String names, int depth) {
        int sort = depth == 0 ? lot.nextInt(2) : 2 + lot.nextInt(8);
        switch (sort) {
            case 0: return "" + names.charAt(lot.nextInt(names.length()));
            case 1: return "" + lot.nextInt(lot.nextInt(20) == 0 ? 20000 : lot.nextInt(4) == 0 ? 1000 : 30);
            case 2: return "!" + blanks() + expression(names, depth - 1);
            case 3: return "(" + blanks() + expression(names, depth - 1) + blanks() + ")";
            case 4: return "!".repeat(6 + lot.nextInt(4)) + expression(names, 0);
            default: {
                char sign = "+-*/<=>&|".charAt(lot.nextInt(9));
                return expression(names, depth - 1) + blanks() + sign + blanks()
                    + expression(names, lot.nextInt(depth));
            }
        }
    }
}
