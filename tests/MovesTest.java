/** Promises 12 to 17. */
public final class MovesTest {
    private static final int BAD = HayBoard.BAD, NO = HayBoard.NO, NONE = HayBoard.NONE;
    private static final Due DUE = new Due("MovesTest");

    public static void main(String[] args) {
        move();
        moves();
        bestAheadOne();
        bestAheadTwo();
        threats();
        lead();
        days();
        daysOfRain();
        daysOfCattle();
        theLastDay();
        DUE.close();
    }

    private static void move() {
        HayBoard x = new HayBoard();
        x.bale(0, 0, 7, 20);
        x.bale(0, 1, 8, 31);
        x.bale(1, 1, 35, 99);
        DUE.is("bale 3", x.move(3, 0), BAD);
        DUE.is("bale -1", x.move(-1, 0), BAD);
        DUE.is("place 36", x.move(0, 36), BAD);
        DUE.is("place -1", x.move(0, -1), BAD);
        DUE.is("not its turn", x.move(1, 7), NO);
        DUE.is("it does not go there", x.move(0, 14), NO);
        DUE.is("its own place", x.move(0, 7), NO);
        DUE.is("the turn stays", x.count(2), 0);
        DUE.is("it takes", x.move(0, 8), 1);
        DUE.is("hay, half of 31 (cut) more", x.told(0, 3), 35);
        DUE.is("took", x.told(0, 5), 1);
        DUE.is("went", x.told(0, 4), 1);
        DUE.is("place", x.told(0, 2), 8);
        DUE.is("the taken one is gone", x.told(1, 2), 36);
        DUE.is("its hay stays", x.told(1, 3), 31);
        DUE.is("it is on the place", x.at(8), 0);
        DUE.is("none is where it was", x.at(7), NONE);
        DUE.is("turn", x.count(2), 1);
        DUE.is("no more of the day", x.count(1), 0);
        DUE.is("no draws", x.count(9), 1);
        DUE.is("one that is gone", x.move(1, 7), NO);
        DUE.is("it takes none", x.move(2, 33), NONE);
        DUE.is("turn", x.count(2), 0);
        x.set(1, 2, 9);
        x.set(1, 1, 1);
        x.set(0, 3, 90);
        DUE.is("it takes again", x.move(0, 9), 1);
        DUE.is("99 at most", x.told(0, 3), 99);
        DUE.is("took two", x.told(0, 5), 2);
        DUE.is("went twice", x.told(0, 4), 2);
    }

    private static void moves() {
        HayBoard x = new HayBoard();
        DUE.is("no bales", x.moves(1), 0);
        x.bale(0, 0, 0, 1);
        x.bale(1, 0, 35, 1);
        x.bale(4, 1, 1, 1);
        DUE.is("farm 0: 2 and 10", x.moves(0), 12);
        DUE.is("farm 1", x.moves(1), 5);
        x.set(1, 2, 36);
        DUE.is("one is gone", x.moves(0), 2);
        DUE.is("farm 2", x.moves(2), BAD);
        DUE.is("farm -1", x.moves(-1), BAD);
        HayBoard y = new HayBoard();
        for (int i = 0; i < 12; i++) {
            y.bale(1, 1, i < 6 ? 7 * i : 7 * (i - 6) + (i == 11 ? -5 * 6 : 1), 1);
        }
        int goes = 0;
        for (int i = 0; i < 12; i++) {
            for (int place = 0; place < 36; place++) {
                goes += y.goes(i, place);
            }
        }
        DUE.is("a crowd of rolls", y.moves(1), goes);
    }

    private static void bestAheadOne() {
        HayBoard x = new HayBoard();
        DUE.is("no bales", x.best(0, 1, 1), NONE);
        x.bale(0, 0, 14, 20);
        x.bale(0, 0, 0, 20);
        x.bale(0, 1, 15, 10);
        x.bale(2, 1, 20, 8);
        // 15: 10 less there, 5 more here. 20: 16 less there, 4 more here.
        DUE.is("it takes what is best", x.best(0, 1, 0), 20);
        DUE.is("lead then", x.best(0, 1, 1), 40 - 26 + 20);
        DUE.is("what 2", x.best(0, 1, 2), BAD);
        DUE.is("what -1", x.best(0, 1, -1), BAD);
        DUE.is("ahead 0", x.best(0, 0, 0), BAD);
        DUE.is("ahead 3", x.best(0, 3, 0), BAD);
        DUE.is("farm 2", x.best(2, 1, 0), BAD);
        DUE.is("farm -1", x.best(-1, 1, 0), BAD);
        x.set(2, 2, 36);
        x.set(3, 2, 36);
        DUE.is("of several the least number", x.best(0, 1, 0), 8);
        DUE.is("none of the others", x.best(1, 2, 0), NONE);
        x.set(2, 2, 1);
        DUE.is("100 times the bale, and the place", x.best(0, 1, 0), 101);
        DUE.is("2 ahead likewise", x.best(0, 2, 0), 101);
        x.set(2, 2, 36);
        Due.text(x, "hay w * 5 + p");
        DUE.is("by place and how often it went", x.best(0, 1, 0), 20);
        DUE.is("lead then, by the text", x.best(0, 1, 1), 20 + 5);
        DUE.is("it is only thought", x.told(0, 2), 14);
    }

    private static void bestAheadTwo() {
        HayBoard x = new HayBoard();
        // The best one looking 1 ahead, on 15, is taken by the roll on 17 then.
        x.bale(0, 0, 14, 40);
        x.bale(0, 1, 15, 10);
        x.bale(1, 1, 17, 10);
        DUE.is("1 ahead", x.best(0, 1, 0), 15);
        DUE.is("1 ahead, lead", x.best(0, 1, 1), 45 - 19);
        // On 8: nothing takes it then, 40 - 10 - 19. On 20, 13 likewise; of several the least.
        DUE.is("2 ahead", x.best(0, 2, 0), 8);
        DUE.is("2 ahead, lead", x.best(0, 2, 1), 11);
        x.set(2, 2, 36);
        DUE.is("the others have nothing then", x.best(0, 2, 0), 15);
        DUE.is("the others have nothing then, lead", x.best(0, 2, 1), 45);
        x.set(1, 2, 36);
        DUE.is("they have nothing at all", x.best(0, 2, 0), 8);
        DUE.is("they have no move", x.best(1, 2, 1), NONE);
        HayBoard y = new HayBoard();
        y.bale(0, 1, 14, 40);
        y.bale(0, 0, 15, 10);
        y.bale(1, 0, 17, 10);
        DUE.is("farm 1, 2 ahead", y.best(1, 2, 0), 8);
        DUE.is("farm 1, 2 ahead, lead", y.best(1, 2, 1), 11);
    }

    private static void threats() {
        HayBoard x = new HayBoard();
        x.bale(0, 0, 0, 1);
        x.bale(0, 0, 2, 1);
        x.bale(0, 0, 35, 1);
        x.bale(1, 1, 5, 1);
        x.bale(5, 1, 34, 1);
        DUE.is("the roll is ahead of bales 1 and 2", x.threats(0), 2 + 4);
        DUE.is("to farm 1", x.threats(1), 16);
        x.set(1, 2, 36);
        DUE.is("bale 0 is free then", x.threats(0), 1 + 4);
        x.set(4, 2, 29);
        x.bale(0, 1, 34, 1);
        DUE.is("by a roll in its row, by a bale beside it", x.threats(0), 1 + 4);
        DUE.is("to two of farm 1", x.threats(1), 16 + 32);
        x.set(3, 2, 36);
        DUE.is("by the bale alone", x.threats(0), 4);
        x.set(0, 2, 28);
        x.set(2, 2, 36);
        DUE.is("to two of farm 1, by bale 0 alone", x.threats(1), 16 + 32);
        DUE.is("to bale 0", x.threats(0), 1);
        DUE.is("farm 2", x.threats(2), BAD);
        DUE.is("farm -1", x.threats(-1), BAD);
    }

    private static void lead() {
        HayBoard x = new HayBoard();
        x.bale(1, 0, 0, 10);
        x.bale(5, 0, 1, 90);
        x.bale(2, 1, 2, 30);
        x.bale(0, 1, 3, 70);
        x.set(3, 2, 36);
        DUE.is("lead(0)", x.lead(0), 19 + 1 - 60);
        DUE.is("lead(1)", x.lead(1), 40);
        DUE.is("lead(2)", x.lead(2), BAD);
        DUE.is("lead(-1)", x.lead(-1), BAD);
    }

    private static void days() {
        HayBoard x = new HayBoard();
        DUE.is("days(0)", x.days(0), BAD);
        DUE.is("days(41)", x.days(41), BAD);
        x.bale(0, 0, 14, 20);
        x.bale(0, 1, 15, 10);
        x.bale(5, 1, 35, 10);
        DUE.is("one is taken", x.days(1), 1);
        DUE.is("by the best move", x.told(0, 2), 15);
        DUE.is("the day", x.count(1), 1);
        DUE.is("turn", x.count(2), 1);
        int z = 1;
        for (int i = 0; i < 2; i++) {
            z = z * 1103515245 + 12345;
        }
        DUE.is("two draws, without cattle and rain", x.count(9), z);
        DUE.is("farm 1 can do nothing", x.days(1), 0);
        DUE.is("the bale stays", x.told(0, 2), 15);
        DUE.is("turn goes on all the same", x.count(2), 0);
        DUE.is("40 days", x.days(40), 0);
        DUE.is("the day", x.count(1), 42);
        DUE.is("it went every second day", x.told(0, 4), 21);
        DUE.is("one that was gone is not gone anew", x.told(1, 2), 36);
    }

    private static void daysOfRain() {
        HayBoard x = new HayBoard();
        x.bale(2, 0, 0, 2);
        x.bale(5, 1, 35, 1);
        x.bale(0, 1, 34, 9);
        x.set(2, 2, 36);
        x.rule(0, 1);
        x.rule(1, 100);
        DUE.is("a day of rain", x.days(1), 0);
        DUE.is("hay 1", x.told(0, 3), 1);
        DUE.is("a stack yet", x.told(0, 0), 2);
        DUE.is("a rotten one stays so", x.told(1, 0), 5);
        DUE.is("with hay 1", x.told(1, 3), 1);
        DUE.is("one that is gone stays dry", x.told(2, 3), 9);
        x.rule(0, 1);
        x.days(1);
        DUE.is("rotten", x.told(0, 0), 5);
        DUE.is("hay 1 then", x.told(0, 3), 1);
        DUE.is("on the common yet", x.told(0, 2), 0);
        x.turns(0, 0);
        x.set(0, 3, 5);
        x.rule(1, 0);
        x.days(2);
        DUE.is("no rain", x.told(0, 3), 5);
        // Rain falls just if the rest of the draw by 100 is below it.
        int[] z = {x.count(9)};
        draw(z);
        int chance = draw(z) % 100;
        x.rule(0, 1);
        x.rule(1, chance);
        x.keep();
        x.days(1);
        DUE.is("rain as great as the rest", x.told(0, 3), 5);
        x.back();
        x.rule(1, chance + 1);
        x.days(1);
        DUE.is("rain above the rest", x.told(0, 3), 4);
    }

    private static int draw(int[] z) {
        z[0] = z[0] * 1103515245 + 12345;
        return z[0] >>> 8;
    }

    /** On each of the 36 places in turn: just the one on the drawn place is eaten from. */
    private static void daysOfCattle() {
        int[] eaten = {5, 5, 3, 5, 4, 0};
        for (int seed = 0; seed < 12; seed++) {
            int[] z = {seed};
            int chance = draw(z) % 100;
            int place = draw(z) % 36;
            for (int kind = 0; kind < 6; kind++) {
                HayBoard x = new HayBoard();
                x.seed(seed);
                x.bale(kind, 1, place, eaten[kind] + 1);
                x.bale(0, 1, (place + 18) % 36, 40);
                x.rule(2, chance);
                x.keep();
                x.days(1);
                DUE.is("cattle as great as the rest", x.told(0, 3), eaten[kind] + 1);
                x.back();
                x.rule(2, chance + 1);
                DUE.is("one more left", x.days(1), 0);
                DUE.is("eaten from kind " + kind, x.told(0, 3), 1);
                DUE.is("not from the other one", x.told(1, 3), 40);
                x.back();
                x.rule(2, 100);
                x.set(0, 3, Math.max(1, eaten[kind]));
                DUE.is("all eaten of kind " + kind, x.days(1), kind == 5 ? 0 : 1);
                DUE.is("it is gone", x.told(0, 2), kind == 5 ? place : 36);
                DUE.is("hay 1", x.told(0, 3), 1);
                DUE.is("nothing is on the place", x.at(place), kind == 5 ? 0 : NONE);
            }
        }
    }

    private static void theLastDay() {
        HayBoard x = new HayBoard();
        x.bale(0, 0, 0, 50);
        x.bale(5, 1, 35, 50);
        for (int i = 0; i < 249; i++) {
            x.days(40);
        }
        x.days(35);
        DUE.is("the day", x.count(1), 9995);
        x.keep();
        int[] told = {x.behind(1, 0), x.behind(1, 2), x.behind(2, 0), x.behind(2, 2), x.behind(3, 0), x.behind(3, 2),
            x.behind(4, 0), x.behind(4, 2)};
        for (int v : told) {
            x.tell(v);
        }
        DUE.is("no more days are told than are left", x.check(30), 0);
        DUE.is("none waits", x.check(30), 1);
        x.days(40);
        DUE.is("the last day", x.count(1), 9999);
        int z = x.count(9);
        DUE.is("no more days", x.days(1), 0);
        DUE.is("no draws", x.count(9), z);
        DUE.is("the last day again", x.count(1), 9999);
        DUE.is("turn of farm 1", x.count(2), 1);
        int there = x.told(0, 2);
        DUE.is("thought goes on without the bound", x.behind(2, 3), there == 0 ? 1 : 0);
        x.keep();
        DUE.is("no days, no numbers", x.check(7), 0);
        x.tell(0);
        DUE.is("one too many", x.check(7), 1);
    }
}
