/** Promises 1 to 11. */
public final class BalesTest {
    private static final int BAD = HayBoard.BAD, NO = HayBoard.NO, FULL = HayBoard.FULL, NONE = HayBoard.NONE,
        KIND = HayBoard.KIND, MAX = Integer.MAX_VALUE, MIN = Integer.MIN_VALUE;
    private static final Due DUE = new Due("BalesTest");

    public static void main(String[] args) {
        aNewObject();
        bale();
        told();
        values();
        at();
        steps();
        ways();
        as();
        turns();
        set();
        rule();
        deal();
        seed();
        DUE.close();
    }

    private static void aNewObject() {
        HayBoard x = new HayBoard();
        for (int what = 0; what < 9; what++) {
            DUE.is("count(" + what + ") of a new one", x.count(what), 0);
        }
        DUE.is("z of a new one", x.count(9), 1);
        for (int place = 0; place < 36; place++) {
            DUE.is("at(" + place + ") of a new one", x.at(place), NONE);
        }
        for (int key = 0; key < 3; key++) {
            DUE.is("why(" + key + ") of a new one", x.why(key), NONE);
        }
        for (int sheet = 0; sheet < 4; sheet++) {
            DUE.is("reads(" + sheet + ") of a new one", x.reads(sheet), HayBoard.NOTHING);
        }
        for (int slot = 0; slot < 5; slot++) {
            DUE.is("rest(" + slot + ") of a new one", x.rest(slot, 1), HayBoard.NOTHING);
        }
        DUE.is("back of a new one", x.back(), NO);
        HayBoard other = new HayBoard();
        x.deal(3);
        x.rule(1, 5);
        DUE.is("another object stays", other.count(0) + other.count(3), 0);
    }

    private static void bale() {
        HayBoard x = new HayBoard();
        DUE.is("kind -1", x.bale(-1, 0, 0, 1), BAD);
        DUE.is("kind 6", x.bale(6, 0, 0, 1), BAD);
        DUE.is("farm -1", x.bale(0, -1, 0, 1), BAD);
        DUE.is("farm 2", x.bale(0, 2, 0, 1), BAD);
        DUE.is("place -1", x.bale(0, 0, -1, 1), BAD);
        DUE.is("place 36", x.bale(0, 0, 36, 1), BAD);
        DUE.is("hay 0", x.bale(0, 0, 0, 0), BAD);
        DUE.is("hay 100", x.bale(0, 0, 0, 100), BAD);
        DUE.is("all far off", x.bale(MAX, MIN, MAX, MIN), BAD);
        DUE.is("none came", x.count(0), 0);
        for (int i = 0; i < 12; i++) {
            DUE.is("bale " + i, x.bale(i % 6, i % 2, 35 - i, i == 0 ? 99 : i), i);
        }
        DUE.is("hay 99 stands", x.told(0, 3), 99);
        DUE.is("a place that is taken, ahead of FULL", x.bale(0, 0, 35, 1), NO);
        DUE.is("BAD ahead of NO", x.bale(0, 0, 35, 0), BAD);
        DUE.is("the thirteenth", x.bale(0, 0, 0, 1), FULL);
        x.set(11, 2, 36);
        DUE.is("one that is gone keeps its number", x.bale(0, 0, 0, 1), FULL);
        DUE.is("twelve", x.count(0), 12);
    }

    private static void told() {
        HayBoard x = new HayBoard();
        x.bale(4, 1, 20, 33);
        int[] want = {4, 1, 20, 33, 0, 0, 61, 4, 59};
        for (int what = 0; what < 9; what++) {
            DUE.is("told(0, " + what + ")", x.told(0, what), want[what]);
        }
        DUE.is("what -1", x.told(0, -1), BAD);
        DUE.is("what 9", x.told(0, 9), BAD);
        DUE.is("bale -1", x.told(-1, 0), BAD);
        DUE.is("bale 1", x.told(1, 0), BAD);
        x.set(0, 2, 36);
        DUE.is("place of one that is gone", x.told(0, 2), 36);
        DUE.is("value of one that is gone", x.told(0, 6), 61);
    }

    /** VALUE, EATEN and WORTH of each KIND, at the least HAY, one between, and the most. */
    private static void values() {
        HayBoard x = new HayBoard();
        int[] hay = {1, 60, 99};
        int[][] value = {{1, 60, 99}, {10, 69, 108}, {2, 120, 198}, {15, 44, 64}, {0, 115, 193}, {1, 1, 1}};
        int[] eaten = {5, 5, 3, 5, 4, 0};
        int[][] worth = {{1, 60, 99}, {5, 64, 103}, {98, 39, 0}, {10, 128, 206}, {91, 32, -7}, {2, 2, 2}};
        x.bale(0, 0, 0, 1);
        for (int kind = 0; kind < 6; kind++) {
            x.turns(0, kind);
            for (int i = 0; i < 3; i++) {
                x.set(0, 3, hay[i]);
                DUE.is("value of kind " + kind + " with " + hay[i], x.told(0, 6), value[kind][i]);
                DUE.is("worth of kind " + kind + " with " + hay[i], x.told(0, 8), worth[kind][i]);
            }
            DUE.is("eaten of kind " + kind, x.told(0, 7), eaten[kind]);
        }
        // What hay gives is held within 0 .. 999; what the kinds make of it has bounds of its own.
        int[][] held = {{0, 999}, {9, 1008}, {0, 999}, {14, 514}, {0, 994}, {1, 1}};
        for (int i = 0; i < 2; i++) {
            Due.text(x, i == 0 ? "hay 0 - 5" : "hay 9999");
            for (int kind = 0; kind < 6; kind++) {
                x.turns(0, kind);
                DUE.is("value of kind " + kind + " of much or nothing", x.told(0, 6), held[kind][i]);
            }
        }
        Due.text(x, "hay 600");
        x.turns(0, 2);
        DUE.is("twice 600 is 999 at most", x.told(0, 6), 999);
        x.turns(0, 4);
        DUE.is("and 5 less", x.told(0, 6), 994);
    }

    private static void at() {
        HayBoard x = new HayBoard();
        x.bale(0, 0, 35, 1);
        x.bale(0, 0, 0, 1);
        DUE.is("at(35)", x.at(35), 0);
        DUE.is("at(0)", x.at(0), 1);
        DUE.is("at(1)", x.at(1), NONE);
        DUE.is("at(-1)", x.at(-1), BAD);
        DUE.is("at(36)", x.at(36), BAD);
        x.set(0, 2, 36);
        DUE.is("at(35) when it is gone", x.at(35), NONE);
    }

    private static void goesJust(String what, HayBoard x, int bale, int... places) {
        for (int place = 0; place < 36; place++) {
            int want = 0;
            for (int p : places) {
                want |= p == place ? 1 : 0;
            }
            DUE.is(what + " to " + place, x.goes(bale, place), want);
        }
    }

    private static void steps() {
        HayBoard x = new HayBoard();
        x.bale(0, 0, 14, 1);
        goesJust("a bale", x, 0, 8, 20, 13, 15);
        x.turns(0, 2);
        goesJust("a stack", x, 0, 7, 9, 19, 21);
        x.turns(0, 4);
        goesJust("a rick", x, 0, 7, 8, 9, 13, 15, 19, 20, 21);
        x.turns(0, 5);
        goesJust("a rotten one", x, 0);
        // From the end of a row nothing goes round to the next one.
        x.set(0, 2, 11);
        x.turns(0, 0);
        goesJust("a bale at the edge", x, 0, 5, 17, 10);
        x.turns(0, 4);
        goesJust("a rick at the edge", x, 0, 5, 17, 10, 4, 16);
        x.bale(0, 0, 10, 1);
        x.bale(0, 1, 17, 1);
        goesJust("a rick, one of its own and one of the others beside it", x, 0, 5, 17, 4, 16);
        x.set(0, 2, 36);
        goesJust("one that is gone", x, 0);
        DUE.is("place -1", x.goes(0, -1), BAD);
        DUE.is("place 36", x.goes(0, 36), BAD);
        DUE.is("bale 3", x.goes(3, 0), BAD);
        DUE.is("bale -1", x.goes(-1, 0), BAD);
    }

    private static void ways() {
        HayBoard x = new HayBoard();
        x.bale(1, 0, 6, 1);
        goesJust("a roll", x, 0, 0, 12, 18, 24, 30, 7, 8, 9, 10, 11);
        x.turns(0, 3);
        goesJust("a cart", x, 0, 0, 12, 18, 24, 7, 8, 9);
        x.bale(5, 1, 8, 1);
        x.bale(5, 0, 18, 1);
        goesJust("a cart with others in its way", x, 0, 0, 12, 7, 8);
        x.turns(0, 1);
        goesJust("a roll with others in its way", x, 0, 0, 12, 7, 8);
        x.set(1, 2, 7);
        goesJust("a roll with one of the others right beside it", x, 0, 0, 12, 7);
        x.set(0, 2, 35);
        goesJust("a roll in a corner", x, 0, 29, 23, 17, 11, 5, 34, 33, 32, 31, 30);
        x.turns(0, 3);
        goesJust("a cart in a corner", x, 0, 29, 23, 17, 34, 33, 32);
        x.set(0, 2, 36);
        goesJust("a cart that is gone", x, 0);
    }

    private static void as() {
        HayBoard x = new HayBoard();
        x.bale(0, 0, 0, 7);
        String[] under = {"0", "01", "02", "013", "024", "05"};
        for (int kind = 0; kind < 6; kind++) {
            x.turns(0, kind);
            for (int asked = 0; asked < 6; asked++) {
                DUE.is("kind " + kind + " as " + asked, x.as(0, asked), under[kind].indexOf('0' + asked) < 0 ? KIND : 7);
            }
        }
        DUE.is("as kind 6", x.as(0, 6), BAD);
        DUE.is("as kind -1", x.as(0, -1), BAD);
        DUE.is("bale 1", x.as(1, 0), BAD);
        x.set(0, 2, 36);
        DUE.is("one that is gone", x.as(0, 0), 7);
    }

    private static void turns() {
        HayBoard x = new HayBoard();
        x.bale(3, 1, 4, 50);
        DUE.is("kind 6", x.turns(0, 6), BAD);
        DUE.is("kind -1", x.turns(0, -1), BAD);
        DUE.is("bale 1", x.turns(1, 0), BAD);
        DUE.is("bale -1", x.turns(-1, 0), BAD);
        DUE.is("it was a cart", x.turns(0, 5), 3);
        DUE.is("it was rotten", x.turns(0, 2), 5);
        DUE.is("it is a stack", x.told(0, 0), 2);
        DUE.is("its hay stays", x.told(0, 3), 50);
        DUE.is("its place stays", x.told(0, 2), 4);
    }

    private static void set() {
        HayBoard x = new HayBoard();
        x.bale(0, 0, 5, 10);
        x.bale(0, 1, 6, 10);
        DUE.is("farm", x.set(0, 1, 1), 0);
        DUE.is("farm again", x.set(0, 1, 0), 1);
        DUE.is("farm 2", x.set(0, 1, 2), BAD);
        DUE.is("farm -1", x.set(0, 1, -1), BAD);
        DUE.is("place of another one", x.set(0, 2, 6), NO);
        DUE.is("its own place", x.set(0, 2, 5), 5);
        DUE.is("place 35", x.set(0, 2, 35), 5);
        DUE.is("it is there", x.at(35), 0);
        DUE.is("it is no more where it was", x.at(5), NONE);
        DUE.is("gone", x.set(0, 2, 36), 35);
        DUE.is("gone twice", x.set(1, 2, 36), 6);
        DUE.is("none is there", x.at(35), NONE);
        DUE.is("back", x.set(0, 2, 6), 36);
        DUE.is("the other one can't be there now", x.set(1, 2, 6), NO);
        DUE.is("place 37", x.set(0, 2, 37), BAD);
        DUE.is("place -1", x.set(0, 2, -1), BAD);
        DUE.is("hay", x.set(0, 3, 99), 10);
        DUE.is("hay 1", x.set(0, 3, 1), 99);
        DUE.is("hay 0", x.set(0, 3, 0), BAD);
        DUE.is("hay 100", x.set(0, 3, 100), BAD);
        DUE.is("what 0", x.set(0, 0, 1), BAD);
        DUE.is("what 4", x.set(0, 4, 1), BAD);
        DUE.is("bale 2", x.set(2, 1, 1), BAD);
        DUE.is("hay is as it was", x.told(0, 3), 1);
    }

    private static void rule() {
        HayBoard x = new HayBoard();
        int[] most = {1, 100, 100};
        for (int what = 0; what < 3; what++) {
            DUE.is("rule " + what + " to its most", x.rule(what, most[what]), 0);
            DUE.is("rule " + what + " beyond", x.rule(what, most[what] + 1), BAD);
            DUE.is("rule " + what + " below", x.rule(what, -1), BAD);
            DUE.is("rule " + what + " stands", x.count(2 + what), most[what]);
            DUE.is("rule " + what + " to 0", x.rule(what, 0), most[what]);
            DUE.is("rule " + what + " is 0", x.count(2 + what), 0);
        }
        DUE.is("rule -1", x.rule(-1, 0), BAD);
        DUE.is("rule 3", x.rule(3, 0), BAD);
    }

    private static void deal() {
        HayBoard x = new HayBoard();
        DUE.is("deal(0)", x.deal(0), BAD);
        DUE.is("deal(13)", x.deal(13), BAD);
        DUE.is("no draw for them", x.count(9), 1);
        DUE.is("deal(1)", x.deal(1), 1);
        int z = 1;
        int[] drawn = new int[4];
        for (int i = 0; i < 4; i++) {
            z = z * 1103515245 + 12345;
            drawn[i] = z >>> 8;
        }
        DUE.is("z behind four draws", x.count(9), z);
        DUE.is("kind", x.told(0, 0), drawn[0] % 6);
        DUE.is("farm", x.told(0, 1), drawn[1] % 2);
        DUE.is("place", x.told(0, 2), drawn[2] % 36);
        DUE.is("hay", x.told(0, 3), 1 + drawn[3] % 60);
        // The same draws again: the PLACE is taken, so the next one, round at the end.
        int place = drawn[2] % 36;
        x.seed(1);
        x.deal(1);
        DUE.is("the next place", x.told(1, 2), (place + 1) % 36);
        HayBoard y = new HayBoard();
        y.bale(0, 0, 35, 1);
        y.bale(0, 0, 0, 1);
        y.seed(seedForPlace35());
        y.deal(1);
        DUE.is("round to place 1", y.told(2, 2), 1);
        DUE.is("as many as there is room for", y.deal(12), 9);
        int before = y.count(9);
        DUE.is("no room", y.deal(12), 0);
        DUE.is("no draws for others", y.count(9), before);
    }

    /** A z from which the third draw has a rest of 35 by 36. */
    private static int seedForPlace35() {
        for (int seed = 0; ; seed++) {
            int z = seed;
            for (int i = 0; i < 3; i++) {
                z = z * 1103515245 + 12345;
            }
            if ((z >>> 8) % 36 == 35) {
                return seed;
            }
        }
    }

    private static void seed() {
        HayBoard x = new HayBoard();
        DUE.is("seed(MIN)", x.seed(MIN), 1);
        DUE.is("seed(-5)", x.seed(-5), MIN);
        DUE.is("z", x.count(9), -5);
    }
}
