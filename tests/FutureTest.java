/** Promises 18 to 24. */
public final class FutureTest {
    private static final int BAD = HayBoard.BAD, NONE = HayBoard.NONE, NOTHING = HayBoard.NOTHING;
    private static final Due DUE = new Due("FutureTest");

    public static void main(String[] args) {
        behind();
        behindAsDays();
        ends();
        endsLate();
        spared();
        given();
        storm();
        fee();
        fine();
        DUE.close();
    }

    private static void behind() {
        HayBoard x = new HayBoard();
        DUE.is("no bales, lead", x.behind(40, 0), 0);
        DUE.is("no bales, place", x.behind(0, 3), BAD);
        x.bale(0, 0, 14, 20);
        x.bale(0, 1, 15, 10);
        x.bale(5, 1, 35, 7);
        int[] now = {9, 3, 37, 14, 15, 35};
        int[] then = {24, 2, 32, 15, 36, 35};
        for (int what = 0; what < 6; what++) {
            DUE.is("behind(0, " + what + ")", x.behind(0, what), now[what]);
            DUE.is("behind(1, " + what + ")", x.behind(1, what), then[what]);
            DUE.is("behind(2, " + what + ")", x.behind(2, what), then[what]);
        }
        DUE.is("behind(3, 3)", x.behind(3, 3), 9);
        DUE.is("behind(-1, 0)", x.behind(-1, 0), BAD);
        DUE.is("behind(41, 0)", x.behind(41, 0), BAD);
        DUE.is("behind(0, -1)", x.behind(0, -1), BAD);
        DUE.is("behind(0, 6)", x.behind(0, 6), BAD);
        DUE.is("nothing changes", x.told(0, 2) + x.count(1) + x.count(2), 14);
        DUE.is("z stays", x.count(9), 1);
    }

    private static void behindAsDays() {
        HayBoard x = new HayBoard();
        x.seed(77);
        x.deal(12);
        x.rule(1, 40);
        x.rule(2, 60);
        int[] lead = new int[41];
        int[] on = new int[41];
        for (int n = 0; n <= 40; n++) {
            lead[n] = x.behind(n, 0);
            on[n] = x.behind(n, 1);
        }
        int hay = x.behind(40, 2);
        int place = x.behind(40, 14);
        for (int n = 0; n <= 40; n++) {
            DUE.is("lead behind " + n, x.lead(0), lead[n]);
            DUE.is("on the common behind " + n, x.count(5), on[n]);
            if (n < 40) {
                x.days(1);
            }
        }
        DUE.is("hay behind 40", x.behind(0, 2), hay);
        DUE.is("place behind 40", x.told(11, 2), place);
    }

    private static void ends() {
        HayBoard x = new HayBoard();
        DUE.is("no bales", x.ends(), 0);
        x.bale(0, 0, 0, 20);
        DUE.is("one farm", x.ends(), 0);
        x.bale(5, 1, 35, 20);
        // Of its moves the least number: between 0 and 1, for ever.
        DUE.is("never", x.ends(), NONE);
        x.set(1, 2, 1);
        DUE.is("at once", x.ends(), 1);
        x.rule(0, 1);
        DUE.is("a day later", x.ends(), 2);
        DUE.is("nothing changes", x.count(5) + x.count(1), 2);
        endsAsTheDaysDo();
    }

    /** Eaten up behind just so many days, or not at all: looked for among seeds. */
    private static void endsAsTheDaysDo() {
        int[] found = new int[2];
        for (int seed = 0; seed < 120 && (found[0] == 0 || found[1] == 0); seed++) {
            HayBoard x = new HayBoard();
            x.bale(5, 0, 0, 20);
            x.bale(0, 1, 35, 99);
            x.rule(2, 100);
            x.seed(seed);
            int n = x.ends();
            found[n == NONE ? 1 : 0]++;
            int days = 0;
            for (; days < 100 && x.count(5) == 2; days++) {
                x.days(1);
            }
            DUE.is("ends as the days do, seed " + seed, n, x.count(5) == 2 ? NONE : days);
        }
    }

    /** It ends on just the last day that is looked at, and a day too late. */
    private static void endsLate() {
        int[] late = {100, 101};
        for (int day : late) {
            HayBoard x = new HayBoard();
            x.bale(5, 0, 35, 20);
            // It can go to and fro alone, on every second day; the first time that cattle find it, it is gone.
            x.bale(2, 1, 0, 3);
            x.rule(2, 100);
            x.seed(seedThatEnds(day));
            DUE.is("ends behind " + day, x.ends(), day == 100 ? 100 : NONE);
            for (int i = 0; i < day - 1; i++) {
                x.days(1);
            }
            DUE.is("not yet", x.count(5), 2);
            DUE.is("one more day", x.days(1), 1);
        }
    }

    private static int seedThatEnds(int wanted) {
        for (int seed = 0; ; seed++) {
            int z = seed;
            int day = 0;
            int found = 0;
            while (found == 0) {
                day++;
                z = next(next(z));
                int place = day / 2 % 2 == 0 ? 0 : 7;
                found = (z >>> 8) % 36 == place ? day : 0;
                z = next(z);
            }
            if (found == wanted) {
                return seed;
            }
        }
    }

    private static int next(int z) {
        return z * 1103515245 + 12345;
    }

    private static void spared() {
        HayBoard x = new HayBoard();
        DUE.is("no bales", x.spared(1, 0), NONE);
        x.bale(5, 0, 0, 20);
        x.bale(5, 1, 35, 20);
        DUE.is("of several the least", x.spared(12, 0), 0);
        DUE.is("lead", x.spared(12, 1), -1);
        x.turns(1, 0);
        x.turns(0, 0);
        x.set(1, 3, 30);
        // Without bale 0 its farm has -30, without bale 1 its farm has -20.
        DUE.is("the lead of its own farm", x.spared(1, 0), 0);
        DUE.is("lead of its own farm", x.spared(1, 1), -30);
        x.set(0, 3, 40);
        DUE.is("the other one", x.spared(1, 0), 1);
        DUE.is("the other one's lead", x.spared(1, 1), -40);
        DUE.is("n 0", x.spared(0, 0), BAD);
        DUE.is("n 13", x.spared(13, 0), BAD);
        DUE.is("what 2", x.spared(1, 2), BAD);
        DUE.is("what -1", x.spared(1, -1), BAD);
        // Now they stand side by side with a third one: who is gone can neither take nor be taken.
        x.bale(0, 1, 1, 10);
        // Without 0: -40; without 1: 45 by taking 2, so -45 for its farm; without 2: 40 - 30 = 10 for farm 0.
        DUE.is("behind a day", x.spared(1, 0), 1);
        DUE.is("behind a day, lead", x.spared(1, 1), -45);
        x.set(2, 2, 36);
        x.set(1, 2, 36);
        DUE.is("just one on the common", x.spared(1, 0), 0);
        x.set(0, 2, 36);
        DUE.is("none on the common", x.spared(1, 0), NONE);
        DUE.is("BAD ahead of NONE", x.spared(0, 0), BAD);
    }

    private static void given() {
        HayBoard x = new HayBoard();
        x.bale(5, 1, 35, 50);
        DUE.is("farm 0 has none", x.given(1, 0), NONE);
        x.bale(5, 0, 0, 20);
        x.bale(5, 0, 2, 20);
        DUE.is("of several the least", x.given(3, 0), 1);
        DUE.is("lead of farm 0", x.given(3, 1), -1);
        // 9 + 3 + 30 less 10: given the 9: 14, the 3: 26, the 30: -28.
        HayBoard y = new HayBoard();
        int[] hay = {9, 3, 30};
        for (int i = 0; i < 3; i++) {
            y.bale(0, 0, 12 * i, hay[i]);
        }
        y.bale(0, 1, 35, 10);
        DUE.is("nearest to 0", y.given(1, 0), 0);
        DUE.is("its lead", y.given(1, 1), 14);
        y.set(3, 3, 36);
        // 9: 3 + 30 - 9 - 36 = -12; 3: 39 - 3 - 36 = 0; 30: 12 - 66.
        DUE.is("to 0", y.given(1, 0), 1);
        DUE.is("lead 0", y.given(1, 1), 0);
        y.set(3, 3, 40);
        DUE.is("below 0", y.given(1, 1), -4);
        DUE.is("n 0", y.given(0, 0), BAD);
        DUE.is("n 13", y.given(13, 0), BAD);
        DUE.is("what 2", y.given(1, 2), BAD);
        DUE.is("what -1", y.given(1, -1), BAD);
        DUE.is("it is only thought", y.told(1, 1), 0);
        givenBehindDays();
        for (int i = 0; i < 3; i++) {
            y.set(i, 2, 36);
        }
        DUE.is("none of farm 0 on the common", y.given(1, 0), NONE);
    }

    private static void givenBehindDays() {
        HayBoard x = new HayBoard();
        x.bale(0, 0, 0, 20);
        x.bale(5, 0, 1, 40);
        x.bale(0, 0, 2, 8);
        x.bale(0, 1, 35, 60);
        x.turns(3, 5);
        x.rule(0, 1);
        // By n 1, farm 1 moves. Bale 0 as farm 1's takes 1 (rotten, 1): 8 - 40 - 1. Bale 1 as farm 1's can do
        // nothing: 28 - 2. Bale 2 as farm 1's takes 1: 20 - 28 - 1.
        DUE.is("behind a day", x.given(1, 0), 2);
        DUE.is("behind a day, lead", x.given(1, 1), -9);
    }

    private static void storm() {
        HayBoard x = new HayBoard();
        DUE.is("missing, ahead of NONE", x.storm(0, 0, 0), NOTHING);
        x.sheet(0, 0, 0);
        DUE.is("none on the common", x.storm(0, 0, 0), NONE);
        x.bale(5, 0, 7, 1);
        x.bale(5, 0, 14, 1);
        DUE.is("no places: the least", x.storm(0, 12, 0), 0);
        DUE.is("no places: no differences", x.storm(0, 12, 1), 0);
        x.sheet(0, 1, 3);
        x.mark(0, 0, 10);
        x.mark(0, 1, 30);
        x.mark(0, 2, -4);
        // Without 0: 26 + 16 + 4. Without 1: 3 + 6 + 4.
        DUE.is("the least differences", x.storm(0, 0, 0), 1);
        DUE.is("together", x.storm(0, 0, 1), 13);
        DUE.is("behind days nobody moves", x.storm(0, 12, 1), 13);
        x.mark(0, 1, NONE);
        DUE.is("places that are numbers alone", x.storm(0, 0, 1), 3 + 4);
        x.sheet(1, 0, 2);
        x.mark(1, 0, -32768);
        x.mark(1, 1, 32767);
        DUE.is("shorts", x.storm(1, 0, 1), 32775 + 32731);
        x.turns(0, 0);
        x.sheet(2, 0, 1);
        x.mark(2, 0, 1);
        DUE.is("it has gone to place 1", x.storm(2, 1, 1), 0);
        DUE.is("if the other one is gone", x.storm(2, 1, 0), 1);
        DUE.is("sheet 4", x.storm(4, 0, 0), BAD);
        DUE.is("sheet -1", x.storm(-1, 0, 0), BAD);
        DUE.is("n -1", x.storm(0, -1, 0), BAD);
        DUE.is("n 13", x.storm(0, 13, 0), BAD);
        DUE.is("what 2", x.storm(0, 0, 2), BAD);
        DUE.is("what -1", x.storm(0, 0, -1), BAD);
        DUE.is("BAD ahead of NOTHING", x.storm(3, 13, 0), BAD);
        DUE.is("nothing changes", x.told(0, 2) + x.told(1, 2), 21);
    }

    private static void fee() {
        HayBoard x = new HayBoard();
        DUE.is("day 0", x.fee(), 0);
        x.days(9);
        DUE.is("the day without a text", x.fee(), 9);
        DUE.is("a text", Due.text(x, "fee d * 10 + t"), 0);
        DUE.is("day and turn", x.fee(), 91);
        x.rule(0, 0);
        DUE.is("the turn", x.fee(), 90);
        Due.text(x, "fee 0 - 7");
        DUE.is("the one that was told last", x.fee(), -7);
        Due.text(x, "hay 5");
        DUE.is("a text of another key", x.fee(), -7);
        Due.text(x, "fee 3 +");
        DUE.is("one with a fault", x.fee(), -7);
    }

    private static void fine() {
        HayBoard x = new HayBoard();
        DUE.is("no bale", x.fine(0), BAD);
        x.bale(0, 0, 0, 20);
        x.bale(0, 0, 35, 40);
        x.days(1);
        DUE.is("went without a text", x.fine(0), 1);
        DUE.is("went without a text", x.fine(1), 0);
        Due.text(x, "fine w * 1000 - h");
        DUE.is("by the text", x.fine(0), 980);
        DUE.is("by the text", x.fine(1), -40);
        DUE.is("bale 2", x.fine(2), BAD);
        DUE.is("bale -1", x.fine(-1), BAD);
        x.set(1, 2, 36);
        DUE.is("one that is gone", x.fine(1), -40);
    }
}
