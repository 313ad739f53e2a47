import java.util.ArrayList;
import java.util.List;

/**
 * All that can be asked of an object, as a row of numbers. Asking uses some of it up and an object has
 * just 512 calls, so it is told in parts, each of another object to which the same has been done.
 */
final class Everything {
    static final int PARTS = 3;

    private Everything() {
    }

    static List<Integer> of(HayBoard x, int part) {
        List<Integer> all = new ArrayList<>();
        switch (part) {
            case 0:
                theCommon(x, all);
                theTexts(x, all);
                break;
            case 1:
                theSlots(x, all);
                theSheets(x, all);
                break;
            default:
                theWaiting(x, all);
        }
        return all;
    }

    private static void theCommon(HayBoard x, List<Integer> all) {
        for (int what = 0; what < 10; what++) {
            all.add(x.count(what));
        }
        for (int place = 0; place < 36; place++) {
            all.add(x.at(place));
        }
        int bales = x.count(0);
        for (int bale = 0; bale < bales; bale++) {
            for (int what = 0; what < 7; what++) {
                all.add(x.told(bale, what));
            }
            all.add(x.fine(bale));
        }
    }

    private static void theTexts(HayBoard x, List<Integer> all) {
        all.add(x.fee());
        for (int key = 0; key < 3; key++) {
            all.add(x.why(key));
        }
        int texts = x.count(6);
        for (int text = 0; text < texts; text++) {
            all.add(x.textTold(text, 0));
            all.add(x.textTold(text, 1));
        }
    }

    private static void theSlots(HayBoard x, List<Integer> all) {
        for (int slot = 0; slot < 5; slot++) {
            all.add(x.ask(slot, 0));
            all.add(x.rest(slot, 1000003));
            int item = 0;
            for (int place = 0; place < 25 && item != HayBoard.INDEX && item != HayBoard.NOTHING; place++) {
                item = x.item(slot, place);
                all.add(item);
            }
        }
    }

    private static void theSheets(HayBoard x, List<Integer> all) {
        for (int sheet = 0; sheet < 4; sheet++) {
            // That NONE is KIND in it tells a row of shorts from one of floats.
            all.add(x.lay(0, 2, sheet) == HayBoard.NOTHING ? 0 : 1);
            int item = 0;
            for (int place = 0; place < 25 && item != HayBoard.INDEX; place++) {
                item = x.item(0, place);
                all.add(item);
            }
            all.add(x.mark(sheet, 0, HayBoard.NONE));
        }
    }

    /** THE TAPE, the numbers that wait and AN IMAGE, each by what comes of it. */
    private static void theWaiting(HayBoard x, List<Integer> all) {
        all.add(x.count(8));
        all.add(x.text());
        theTexts(x, all);
        all.add(x.count(7));
        all.add(x.check(3));
        all.add(x.back());
        theCommon(x, all);
        theTexts(x, all);
    }
}
