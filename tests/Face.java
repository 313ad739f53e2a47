/** The calls of the class by their names, and what they answer by the names of its constants. */
final class Face {
    private Face() {
    }

    static int answer(HayBoard board, String name, int[] a) {
        switch (name) {
            case "bale": return board.bale(a[0], a[1], a[2], a[3]);
            case "told": return board.told(a[0], a[1]);
            case "at": return board.at(a[0]);
            case "goes": return board.goes(a[0], a[1]);
            case "as": return board.as(a[0], a[1]);
            case "turns": return board.turns(a[0], a[1]);
            case "set": return board.set(a[0], a[1], a[2]);
            case "rule": return board.rule(a[0], a[1]);
            case "deal": return board.deal(a[0]);
            case "seed": return board.seed(a[0]);
            case "move": return board.move(a[0], a[1]);
            case "moves": return board.moves(a[0]);
            case "best": return board.best(a[0], a[1], a[2]);
            case "threats": return board.threats(a[0]);
            case "lead": return board.lead(a[0]);
            case "days": return board.days(a[0]);
            case "behind": return board.behind(a[0], a[1]);
            case "ends": return board.ends();
            case "spared": return board.spared(a[0], a[1]);
            case "given": return board.given(a[0], a[1]);
            case "storm": return board.storm(a[0], a[1], a[2]);
            case "fee": return board.fee();
            case "fine": return board.fine(a[0]);
            default: return answerOfRows(board, name, a);
        }
    }

    private static int answerOfRows(HayBoard board, String name, int[] a) {
        switch (name) {
            case "feed": return board.feed(a[0], a[1], a[2]);
            case "trim": return board.trim(a[0]);
            case "text": return board.text();
            case "textTold": return board.textTold(a[0], a[1]);
            case "why": return board.why(a[0]);
            case "sheet": return board.sheet(a[0], a[1], a[2]);
            case "mark": return board.mark(a[0], a[1], a[2]);
            case "pour": return board.pour(a[0]);
            case "reads": return board.reads(a[0]);
            case "copy": return board.copy(a[0], a[1], a[2], a[3], a[4]);
            case "lay": return board.lay(a[0], a[1], a[2]);
            case "ask": return board.ask(a[0], a[1]);
            case "item": return board.item(a[0], a[1]);
            case "rest": return board.rest(a[0], a[1]);
            case "tell": return board.tell(a[0]);
            case "check": return board.check(a[0]);
            case "keep": return board.keep();
            case "back": return board.back();
            case "count": return board.count(a[0]);
            default: throw new IllegalArgumentException(name);
        }
    }

    static int number(String word) {
        switch (word) {
            case "BAD": return HayBoard.BAD;
            case "NO": return HayBoard.NO;
            case "FULL": return HayBoard.FULL;
            case "NONE": return HayBoard.NONE;
            case "NOTHING": return HayBoard.NOTHING;
            case "KIND": return HayBoard.KIND;
            case "INDEX": return HayBoard.INDEX;
            case "SIZE": return HayBoard.SIZE;
            case "MIN": return Integer.MIN_VALUE;
            case "MAX": return Integer.MAX_VALUE;
            default: return Integer.parseInt(word);
        }
    }

    /** Whether a call that answers so is one that was refused. */
    static boolean isRefusal(String name, int answer) {
        switch (answer) {
            case HayBoard.BAD: case HayBoard.NO: case HayBoard.FULL: case HayBoard.NOTHING: case HayBoard.KIND:
            case HayBoard.INDEX: case HayBoard.SIZE:
                return true;
            default:
                return name.equals("text") && answer < 0;
        }
    }
}
