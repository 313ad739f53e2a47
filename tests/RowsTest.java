/** Promises 39 to 43. */
public final class RowsTest {
    private static final int BAD = HayBoard.BAD, NO = HayBoard.NO, FULL = HayBoard.FULL, NONE = HayBoard.NONE;
    private static final Due DUE = new Due("RowsTest");

    public static void main(String[] args) {
        tell();
        check();
        checkByTheImage();
        keepAndBack();
        whatAnImageLeaves();
        count();
        DUE.close();
    }

    private static void tell() {
        HayBoard x = new HayBoard();
        for (int i = 1; i <= 60; i++) {
            DUE.is("tell " + i, x.tell(-i), i);
        }
        DUE.is("the 61st", x.tell(0), FULL);
        DUE.is("60 wait", x.count(7), 60);
    }

    private static HayBoard still() {
        HayBoard x = new HayBoard();
        x.bale(5, 0, 0, 20);
        x.bale(5, 0, 1, 21);
        x.bale(5, 1, 2, 1);
        return x;
    }

    private static void told(HayBoard x, int... numbers) {
        for (int n : numbers) {
            x.tell(n);
        }
    }

    private static void check() {
        HayBoard x = still();
        x.tell(1);
        DUE.is("BAD ahead of NO", x.check(0), BAD);
        DUE.is("none waits then", x.count(7), 0);
        x.tell(1);
        DUE.is("no image", x.check(1), NO);
        DUE.is("none waits then", x.count(7), 0);
        x.keep();
        x.tell(1);
        DUE.is("n 31", x.check(31), BAD);
        DUE.is("none waits then", x.count(7), 0);
        told(x, 1, 42, 1, 42);
        DUE.is("two days", x.check(2), 0);
        DUE.is("none waits then", x.check(2), 1);
        told(x, 1, 42, 1);
        DUE.is("the last is missing", x.check(2), 4);
        told(x, 1, 42, 1, 42, 1);
        DUE.is("one too many", x.check(2), 5);
        told(x, 0, 42);
        DUE.is("the first is wrong", x.check(1), 1);
        told(x, 1, 41);
        DUE.is("the second is wrong", x.check(1), 2);
        told(x, 1, 42, 2, 42, 1, 42);
        DUE.is("the third is wrong", x.check(3), 3);
        told(x, 1, 42, 1, 40, 1);
        DUE.is("a wrong one ahead of a missing one", x.check(3), 4);
        for (int i = 0; i < 30; i++) {
            told(x, 1, 42);
        }
        DUE.is("30 days", x.check(30), 0);
        DUE.is("it is only thought", x.count(1) + x.count(2), 0);
        DUE.is("z stays", x.count(9), 1);
    }

    private static void checkByTheImage() {
        HayBoard x = new HayBoard();
        x.seed(9);
        x.deal(12);
        x.rule(1, 50);
        x.rule(2, 50);
        Due.text(x, "hay h * 2 + w");
        x.keep();
        int[] want = new int[20];
        for (int i = 0; i < 10; i++) {
            want[2 * i] = x.behind(i + 1, 0);
            want[2 * i + 1] = x.behind(i + 1, 2);
        }
        x.days(5);
        Due.text(x, "hay 1");
        x.rule(1, 0);
        x.seed(0);
        x.set(0, 1, 1 - x.told(0, 1));
        told(x, want);
        DUE.is("by the image, whatever has come since", x.check(10), 0);
        DUE.is("now is as it was", x.count(1), 5);
        x.back();
        told(x, want);
        DUE.is("by the image, again", x.check(10), 0);
        x.days(1);
        x.keep();
        told(x, want);
        DUE.is("by the new image", x.check(10) == 0 ? 1 : 0, 0);
    }

    private static void keepAndBack() {
        HayBoard x = new HayBoard();
        DUE.is("no image", x.back(), NO);
        DUE.is("an image of nothing", x.keep(), 0);
        x.bale(3, 1, 9, 44);
        DUE.is("back to nothing", x.back(), 0);
        DUE.is("nothing on the place", x.at(9), NONE);
        DUE.is("the bale is none any more", x.told(0, 0), BAD);
        DUE.is("its place is free", x.bale(1, 0, 9, 40), 0);
        x.bale(0, 1, 10, 30);
        x.move(0, 10);
        x.back();
        x.bale(1, 0, 9, 40);
        DUE.is("a new one never went", x.told(0, 4), 0);
        DUE.is("a new one never took", x.told(0, 5), 0);
        DUE.is("where the old one was is nothing", x.at(10), NONE);
        whereAnOldOneWas();
        x.bale(0, 1, 10, 30);
        x.rule(1, 30);
        x.rule(2, 20);
        x.seed(1234);
        x.move(0, 10);
        x.days(3);
        DUE.is("keep", x.keep(), 2);
        int[] count = new int[10];
        int[][] bale = new int[2][9];
        for (int i = 0; i < 10; i++) {
            count[i] = x.count(i);
        }
        for (int b = 0; b < 2; b++) {
            for (int what = 0; what < 9; what++) {
                bale[b][what] = x.told(b, what);
            }
        }
        for (int again = 0; again < 2; again++) {
            x.deal(9);
            x.rule(0, again);
            x.rule(1, 100);
            x.rule(2, 0);
            x.turns(0, 2);
            x.set(1, 2, x.at(0) == NONE ? 0 : 36);
            Due.text(x, "hay 7");
            x.days(5);
            DUE.is("back", x.back(), 2);
            for (int i = 0; i < 10; i++) {
                DUE.is("count(" + i + ") as it was", x.count(i), count[i]);
            }
            for (int b = 0; b < 2; b++) {
                for (int what = 0; what < 9; what++) {
                    DUE.is("told(" + b + ", " + what + ") as it was", x.told(b, what), bale[b][what]);
                }
            }
            DUE.is("the place as it was", x.at(x.told(0, 2)), 0);
        }
    }

    private static void whereAnOldOneWas() {
        HayBoard x = new HayBoard();
        x.bale(0, 0, 0, 1);
        x.keep();
        x.bale(0, 1, 10, 30);
        x.back();
        x.set(0, 2, 10);
        x.bale(0, 1, 11, 30);
        DUE.is("one that came where an old one was stays", x.at(10), 0);
        DUE.is("the new one", x.at(11), 1);
    }

    private static void whatAnImageLeaves() {
        HayBoard x = new HayBoard();
        x.keep();
        x.sheet(0, 0, 1);
        x.mark(0, 0, 3);
        x.lay(0, 3, 11);
        x.tell(5);
        x.feed(0, 0, 0);
        x.back();
        DUE.is("sheets stay", x.reads(0), 0);
        DUE.is("slots stay", x.rest(0, 4), 3);
        DUE.is("numbers that wait stay", x.count(7), 1);
        DUE.is("the tape stays", x.count(8), 12);
    }

    private static void count() {
        HayBoard x = new HayBoard();
        x.bale(0, 0, 0, 1);
        x.bale(0, 0, 1, 1);
        x.bale(0, 0, 2, 1);
        x.set(2, 2, 36);
        x.days(7);
        x.rule(1, 33);
        x.rule(2, 44);
        Due.text(x, "hay 1");
        Due.text(x, "fee 1");
        Due.text(x, "fee 1");
        Due.text(x, "fee 1");
        told(x, 1, 2, 3, 4, 5, 6);
        x.feed(0, 0, 0);
        x.trim(9);
        x.seed(-77);
        int[] want = {3, 7, 1, 33, 44, 2, 4, 6, 9, -77};
        for (int what = 0; what < 10; what++) {
            DUE.is("count(" + what + ")", x.count(what), want[what]);
        }
        DUE.is("count(-1)", x.count(-1), BAD);
        DUE.is("count(10)", x.count(10), BAD);
    }
}
