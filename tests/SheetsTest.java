/** Promises 30 to 38. */
public final class SheetsTest {
    private static final int BAD = HayBoard.BAD, NO = HayBoard.NO, NONE = HayBoard.NONE, NOTHING = HayBoard.NOTHING,
        KIND = HayBoard.KIND, INDEX = HayBoard.INDEX, SIZE = HayBoard.SIZE, MIN = Integer.MIN_VALUE,
        MAX = Integer.MAX_VALUE;
    private static final Due DUE = new Due("SheetsTest");

    public static void main(String[] args) {
        sheet();
        markShorts();
        markFloats();
        pour();
        reads();
        copy();
        copyRefused();
        lay();
        ask();
        item();
        rest();
        DUE.close();
    }

    /** A place of a sheet, seen through slot 4. */
    private static int seen(HayBoard x, int sheet, int place) {
        x.lay(4, 2, sheet);
        return x.item(4, place);
    }

    private static void sheet() {
        HayBoard x = new HayBoard();
        DUE.is("sheet -1", x.sheet(-1, 0, 1), BAD);
        DUE.is("sheet 4", x.sheet(4, 0, 1), BAD);
        DUE.is("sort -2", x.sheet(0, -2, 1), BAD);
        DUE.is("sort 2", x.sheet(0, 2, 1), BAD);
        DUE.is("25", x.sheet(0, 0, 25), BAD);
        DUE.is("-1", x.sheet(0, 1, -1), SIZE);
        DUE.is("far below", x.sheet(0, 0, MIN), SIZE);
        DUE.is("it is missing yet", x.reads(0), NOTHING);
        DUE.is("24", x.sheet(0, 0, 24), 24);
        DUE.is("all 0", seen(x, 0, 23), 0);
        DUE.is("no more", seen(x, 0, 24), INDEX);
        x.mark(0, 23, 5);
        DUE.is("a refused one changes nothing", x.sheet(0, 1, -1), SIZE);
        DUE.is("5", seen(x, 0, 23), 5);
        DUE.is("anew", x.sheet(0, 1, 24), 24);
        DUE.is("all 0 anew", seen(x, 0, 23), 0);
        DUE.is("no places", x.sheet(0, 1, 0), 0);
        DUE.is("no places are not missing", x.reads(0), NONE);
        DUE.is("missing, n any", x.sheet(0, -1, MAX), 0);
        DUE.is("missing", x.reads(0), NOTHING);
        DUE.is("missing, n below 0", x.sheet(0, -1, -3), 0);
    }

    private static void markShorts() {
        HayBoard x = new HayBoard();
        DUE.is("sheet 4", x.mark(4, 0, 0), BAD);
        DUE.is("sheet -1", x.mark(-1, 0, 0), BAD);
        DUE.is("missing", x.mark(0, 0, 0), NOTHING);
        x.sheet(0, 0, 3);
        DUE.is("place -1", x.mark(0, -1, 0), INDEX);
        DUE.is("place 3", x.mark(0, 3, 0), INDEX);
        DUE.is("no such place, ahead of KIND", x.mark(0, 3, NONE), INDEX);
        DUE.is("no number in shorts", x.mark(0, 0, NONE), KIND);
        int[] v = {7, 32767, 32768, -32768, -32769, 65536, MAX, MIN, -1, 100000};
        for (int n : v) {
            DUE.is("mark " + n, x.mark(0, 2, n), 1);
            DUE.is("seen " + n, seen(x, 0, 2), (short) n);
        }
        DUE.is("the others stay", seen(x, 0, 1), 0);
    }

    private static void markFloats() {
        HayBoard x = new HayBoard();
        x.sheet(3, 1, 2);
        DUE.is("place 2, ahead of BAD", x.mark(3, 2, 100000), INDEX);
        DUE.is("100000", x.mark(3, 1, 100000), BAD);
        DUE.is("-100000", x.mark(3, 1, -100000), BAD);
        DUE.is("NONE less 1", x.mark(3, 1, NONE - 1), BAD);
        DUE.is("99999", x.mark(3, 1, 99999), 1);
        DUE.is("99999 seen", seen(x, 3, 1), 99999);
        DUE.is("-99999", x.mark(3, 1, -99999), 1);
        DUE.is("-99999 seen", seen(x, 3, 1), -99999);
        DUE.is("no number", x.mark(3, 1, NONE), 1);
        DUE.is("no number seen", seen(x, 3, 1), KIND);
    }

    private static void pour() {
        HayBoard x = new HayBoard();
        DUE.is("sheet 4", x.pour(4), BAD);
        DUE.is("sheet -1", x.pour(-1), BAD);
        DUE.is("missing", x.pour(1), NOTHING);
        x.sheet(1, 1, 4);
        DUE.is("no bales", x.pour(1), 0);
        int[] was = {10, 20, 30, 40, 50};
        int[] v = {10, -7, NONE, 5000};
        int[] want = {10, 1, 30, 99, 50};
        for (int i = 0; i < 5; i++) {
            x.bale(0, 0, i, was[i]);
        }
        x.set(3, 2, 36);
        for (int i = 0; i < 4; i++) {
            x.mark(1, i, v[i]);
        }
        DUE.is("two are otherwise", x.pour(1), 2);
        for (int i = 0; i < 5; i++) {
            DUE.is("hay " + i, x.told(i, 3), want[i]);
        }
        DUE.is("none is otherwise again", x.pour(1), 0);
        x.sheet(1, 0, 24);
        DUE.is("0 gives 1: all but one", x.pour(1), 4);
    }

    private static void reads() {
        HayBoard x = new HayBoard();
        DUE.is("sheet 4", x.reads(4), BAD);
        DUE.is("sheet -1", x.reads(-1), BAD);
        DUE.is("missing", x.reads(2), NOTHING);
        x.bale(0, 0, 5, 1);
        x.bale(0, 0, 0, 1);
        x.sheet(2, 1, 4);
        DUE.is("0", x.reads(2), 0);
        x.mark(2, 0, 5);
        DUE.is("0 is the place of 1; no bale is 2", x.reads(2), 2);
        x.mark(2, 2, NONE);
        DUE.is("no number is passed over", x.reads(2), 3);
        x.mark(2, 3, NONE);
        DUE.is("none", x.reads(2), NONE);
        x.set(1, 2, 36);
        DUE.is("gone", x.reads(2), 1);
        x.mark(2, 1, 36);
        DUE.is("36 is gone", x.reads(2), NONE);
        x.mark(2, 0, NONE);
        x.mark(2, 1, NONE);
        DUE.is("no numbers", x.reads(2), NONE);
        x.sheet(2, 0, 1);
        x.mark(2, 0, 5 + 65536);
        DUE.is("fewer places than bales", x.reads(2), NONE);
    }

    private static void row(String what, HayBoard x, int sheet, int... want) {
        for (int i = 0; i < want.length; i++) {
            DUE.is(what + ", place " + i, seen(x, sheet, i), want[i]);
        }
        DUE.is(what + ", its end", seen(x, sheet, want.length), INDEX);
    }

    private static void copy() {
        HayBoard x = new HayBoard();
        x.sheet(0, 1, 5);
        x.sheet(1, 1, 3);
        for (int i = 0; i < 5; i++) {
            x.mark(0, i, i == 3 ? NONE : 10 + i);
        }
        DUE.is("three", x.copy(0, 2, 1, 0, 3), 3);
        row("copied", x, 1, 12, KIND, 14);
        row("as it was", x, 0, 10, 11, 12, KIND, 14);
        DUE.is("up in itself", x.copy(0, 0, 0, 1, 4), 4);
        row("up in itself", x, 0, 10, 10, 11, 12, KIND);
        DUE.is("down in itself", x.copy(0, 1, 0, 0, 4), 4);
        row("down in itself", x, 0, 10, 11, 12, KIND, KIND);
        DUE.is("none", x.copy(1, 0, 0, 0, 0), 0);
        DUE.is("none, at the ends", x.copy(1, 3, 0, 5, 0), 0);
        row("none", x, 0, 10, 11, 12, KIND, KIND);
        x.sheet(2, 0, 2);
        x.sheet(3, 0, 2);
        x.mark(2, 1, -9);
        DUE.is("shorts", x.copy(2, 1, 3, 0, 1), 1);
        row("shorts", x, 3, -9, 0);
    }

    private static void copyRefused() {
        HayBoard x = new HayBoard();
        x.sheet(0, 0, 5);
        x.sheet(1, 1, 5);
        x.sheet(3, 0, 3);
        DUE.is("from -1", x.copy(-1, 0, 0, 0, 1), BAD);
        DUE.is("from 4", x.copy(4, 0, 0, 0, 1), BAD);
        DUE.is("to -1", x.copy(0, 0, -1, 0, 1), BAD);
        DUE.is("to 4, ahead of NOTHING", x.copy(2, 0, 4, 0, 1), BAD);
        DUE.is("from a missing one", x.copy(2, 0, 0, 0, 1), NOTHING);
        DUE.is("to a missing one, ahead of INDEX", x.copy(0, 9, 2, 0, 1), NOTHING);
        DUE.is("not of one sort", x.copy(0, 0, 1, 0, 1), KIND);
        DUE.is("not of one sort, ahead of INDEX", x.copy(1, 9, 0, 9, 9), KIND);
        DUE.is("not of one sort, none", x.copy(1, 0, 0, 0, 0), KIND);
        int[][] wrong = {{-1, 0, 1}, {0, -1, 1}, {5, 0, 1}, {0, 3, 1}, {3, 0, 3}, {0, 1, 3}, {0, 0, 4}, {6, 0, 0},
            {0, 4, 0}, {0, 0, -1}, {MAX, 0, 1}, {0, MAX, 1}, {1, 1, MAX}, {1, 1, MIN}, {MIN, MIN, MIN}, {MAX, MAX, MAX}};
        for (int[] w : wrong) {
            DUE.is("copy(0, " + w[0] + ", 3, " + w[1] + ", " + w[2] + ")", x.copy(0, w[0], 3, w[1], w[2]), INDEX);
        }
    }

    private static void lay() {
        HayBoard x = new HayBoard();
        x.bale(0, 0, 0, 20);
        x.sheet(1, 0, 2);
        DUE.is("slot -1", x.lay(-1, 3, 0), BAD);
        DUE.is("slot 5", x.lay(5, 3, 0), BAD);
        DUE.is("thing -1", x.lay(0, -1, 0), BAD);
        DUE.is("thing 4", x.lay(0, 4, 0), BAD);
        DUE.is("bale 1", x.lay(0, 1, 1), BAD);
        DUE.is("bale -1", x.lay(0, 1, -1), BAD);
        DUE.is("sheet 4", x.lay(0, 2, 4), BAD);
        DUE.is("sheet -1", x.lay(0, 2, -1), BAD);
        DUE.is("a missing sheet", x.lay(0, 2, 0), NOTHING);
        for (int slot = 0; slot < 5; slot++) {
            DUE.is("it held nothing", x.lay(slot, 1, 0), 0);
            DUE.is("it held a bale", x.lay(slot, 2, 1), 1);
            DUE.is("it held a sheet", x.lay(slot, 3, MIN), 2);
            DUE.is("a refused one changes nothing", x.lay(slot, 2, 0), NOTHING);
            DUE.is("it held a number", x.lay(slot, 0, MAX), 3);
            DUE.is("it held nothing again", x.lay(slot, 0, -7), 0);
        }
    }

    private static void ask() {
        HayBoard x = new HayBoard();
        x.bale(3, 0, 0, 20);
        DUE.is("slot 5", x.ask(5, 0), BAD);
        DUE.is("slot -1", x.ask(-1, 0), BAD);
        DUE.is("kind 6, ahead of NOTHING", x.ask(0, 6), BAD);
        DUE.is("kind -1", x.ask(0, -1), BAD);
        DUE.is("nothing", x.ask(0, 0), NOTHING);
        x.lay(0, 1, 0);
        int[] want = {48, 48, KIND, 48, KIND, KIND};
        for (int kind = 0; kind < 6; kind++) {
            DUE.is("a cart for kind " + kind, x.ask(0, kind), want[kind]);
        }
        x.turns(0, 4);
        x.set(0, 3, 99);
        DUE.is("as it was then, for good", x.ask(0, 1), 48);
        x.lay(0, 1, 0);
        int[] rick = {-7, KIND, -7, KIND, -7, KIND};
        for (int kind = 0; kind < 6; kind++) {
            DUE.is("a rick for kind " + kind, x.ask(0, kind), rick[kind]);
        }
        x.lay(1, 3, 5);
        DUE.is("a number", x.ask(1, 0), KIND);
        x.sheet(0, 0, 1);
        x.lay(1, 2, 0);
        DUE.is("a sheet", x.ask(1, 0), KIND);
        x.lay(0, 0, 0);
        DUE.is("nothing again", x.ask(0, 0), NOTHING);
        x.keep();
        x.lay(0, 1, 0);
        x.back();
        DUE.is("an image leaves the slots", x.ask(0, 0), -7);
    }

    private static void item() {
        HayBoard x = new HayBoard();
        DUE.is("slot 5", x.item(5, 0), BAD);
        DUE.is("slot -1", x.item(-1, 0), BAD);
        DUE.is("nothing", x.item(0, 99), NOTHING);
        x.lay(0, 3, 7);
        DUE.is("a number, ahead of INDEX", x.item(0, 99), KIND);
        x.bale(0, 0, 0, 1);
        x.lay(0, 1, 0);
        DUE.is("a bale", x.item(0, 0), KIND);
        x.sheet(2, 1, 3);
        x.mark(2, 1, -8);
        x.mark(2, 2, NONE);
        x.lay(0, 2, 2);
        DUE.is("0", x.item(0, 0), 0);
        DUE.is("-8", x.item(0, 1), -8);
        DUE.is("no number", x.item(0, 2), KIND);
        DUE.is("place 3", x.item(0, 3), INDEX);
        DUE.is("place -1", x.item(0, -1), INDEX);
        x.mark(2, 1, 9);
        DUE.is("a row of its own", x.item(0, 1), -8);
        x.sheet(2, -1, 0);
        DUE.is("when the sheet is missing", x.item(0, 1), -8);
        x.sheet(2, 0, 0);
        x.lay(1, 2, 2);
        DUE.is("no places", x.item(1, 0), INDEX);
        DUE.is("the other slot stays", x.item(0, 1), -8);
    }

    private static void rest() {
        HayBoard x = new HayBoard();
        DUE.is("slot 5", x.rest(5, 0), BAD);
        DUE.is("slot -1", x.rest(-1, 0), BAD);
        DUE.is("nothing, ahead of NO", x.rest(0, 0), NOTHING);
        x.bale(0, 0, 0, 1);
        x.lay(0, 1, 0);
        DUE.is("a bale, ahead of NO", x.rest(0, 0), KIND);
        x.sheet(0, 0, 1);
        x.lay(0, 2, 0);
        DUE.is("a sheet", x.rest(0, 1), KIND);
        int[] number = {17, -17, 17, MIN, MIN, MAX, 0};
        int[] by = {5, 5, -5, -1, MIN, MIN, 3};
        int[] want = {2, -2, 2, 0, 0, MAX, 0};
        for (int i = 0; i < number.length; i++) {
            x.lay(0, 3, number[i]);
            DUE.is("rest of " + number[i] + " by " + by[i], x.rest(0, by[i]), want[i]);
        }
        DUE.is("by 0", x.rest(0, 0), NO);
    }
}
