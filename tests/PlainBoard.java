import java.util.ArrayList;
import java.util.List;

/**
 * The document once more, written for plainness alone and in another way than the class: kinds are
 * objects under one another, what is only thought is thought on copies, texts are worked out from
 * their words, sheets are rows of the machine's own sorts. Calls have the order of the face; each
 * is asked by its name and its numbers.
 */
final class PlainBoard {
    static final int BAD = -1000000001, NO = -1000000002, FULL = -1000000003, NONE = -1000000005,
        NOTHING = -1000000011, KIND = -1000000012, INDEX = -1000000013, SIZE = -1000000014;

    // ---- kinds

    static class Hay {
        boolean reaches(State s, int rows, int columns, List<Integer> between) {
            return Math.abs(rows) + Math.abs(columns) == 1;
        }

        int value(int given) {
            return Math.max(0, Math.min(999, given));
        }

        int eaten() {
            return 5;
        }

        int worth(int hay) {
            return hay;
        }
    }

    static class Roll extends Hay {
        @Override boolean reaches(State s, int rows, int columns, List<Integer> between) {
            return (rows == 0) != (columns == 0) && between.stream().allMatch(p -> s.at(p) == null);
        }

        @Override int value(int given) {
            return super.value(given) + 9;
        }

        @Override int worth(int hay) {
            return super.worth(hay) + 4;
        }
    }

    static class Cart extends Roll {
        @Override boolean reaches(State s, int rows, int columns, List<Integer> between) {
            return super.reaches(s, rows, columns, between) && between.size() <= 2;
        }

        @Override int value(int given) {
            return (super.value(given) + 20) / 2;
        }

        @Override int worth(int hay) {
            return super.worth(hay) * 2;
        }
    }

    static class Stack extends Hay {
        @Override boolean reaches(State s, int rows, int columns, List<Integer> between) {
            return rows * rows == 1 && columns * columns == 1;
        }

        @Override int value(int given) {
            return Math.min(999, super.value(given) * 2);
        }

        @Override int eaten() {
            return 3;
        }

        @Override int worth(int hay) {
            return 99 - hay;
        }
    }

    static class Rick extends Stack {
        @Override boolean reaches(State s, int rows, int columns, List<Integer> between) {
            return super.reaches(s, rows, columns, between) || new Hay().reaches(s, rows, columns, between);
        }

        @Override int value(int given) {
            return Math.max(0, super.value(given) - 5);
        }

        @Override int eaten() {
            return super.eaten() + 1;
        }

        @Override int worth(int hay) {
            return super.worth(hay) - 7;
        }
    }

    static class Rotten extends Hay {
        @Override boolean reaches(State s, int rows, int columns, List<Integer> between) {
            return false;
        }

        @Override int value(int given) {
            return 1;
        }

        @Override int eaten() {
            return 0;
        }

        @Override int worth(int hay) {
            return 2;
        }
    }

    static final Hay[] ALL_KINDS = {new Hay(), new Roll(), new Stack(), new Cart(), new Rick(), new Rotten()};

    static boolean isOf(int kind, int asked) {
        return ALL_KINDS[asked].getClass().isInstance(ALL_KINDS[kind]);
    }

    // ---- the state

    static final class B implements Cloneable {
        int number, kind, farm, place, hay, went, took;

        B copy() {
            try {
                return (B) clone();
            } catch (CloneNotSupportedException e) {
                throw new IllegalStateException(e);
            }
        }

        boolean on() {
            return place < 36;
        }

        Hay kind() {
            return ALL_KINDS[kind];
        }
    }

    static final class State {
        final List<B> bales = new ArrayList<>();
        final List<PlainText> texts = new ArrayList<>();
        int turn, rain, cattle, day, z = 1;

        State copy() {
            State s = new State();
            for (B b : bales) {
                s.bales.add(b.copy());
            }
            s.texts.addAll(texts);
            s.turn = turn;
            s.rain = rain;
            s.cattle = cattle;
            s.day = day;
            s.z = z;
            return s;
        }

        B at(int place) {
            return bales.stream().filter(b -> b.place == place).findFirst().orElse(null);
        }

        List<B> on() {
            return bales.stream().filter(B::on).toList();
        }

        List<B> on(int farm) {
            return bales.stream().filter(b -> b.on() && b.farm == farm).toList();
        }

        int why(int key) {
            for (int t = texts.size() - 1; t >= 0; t--) {
                if (texts.get(t).key == key) {
                    return t;
                }
            }
            return NONE;
        }

        int gives(int key, int without, int... names) {
            return why(key) == NONE ? without : texts.get(why(key)).gives(names);
        }

        int value(B b) {
            return b.kind().value(gives(0, b.hay, b.hay, b.place, b.went));
        }

        boolean goes(B b, int place) {
            if (!b.on() || b.place == place || at(place) != null && at(place).farm == b.farm) {
                return false;
            }
            int rows = place / 6 - b.place / 6;
            int columns = place % 6 - b.place % 6;
            List<Integer> between = new ArrayList<>();
            if (rows == 0 || columns == 0) {
                int step = Integer.signum(rows) * 6 + Integer.signum(columns);
                for (int p = b.place + step; p != place; p += step) {
                    between.add(p);
                }
            }
            return b.kind().reaches(this, rows, columns, between);
        }

        List<Integer> moves(int farm) {
            List<Integer> moves = new ArrayList<>();
            for (B b : on(farm)) {
                for (int p = 0; p < 36; p++) {
                    if (goes(b, p)) {
                        moves.add(b.number * 100 + p);
                    }
                }
            }
            return moves;
        }

        int make(int move) {
            B b = bales.get(move / 100);
            B taken = at(move % 100);
            b.place = move % 100;
            b.went++;
            if (taken == null) {
                return NONE;
            }
            taken.place = 36;
            b.took++;
            b.hay = Math.min(99, b.hay + taken.hay / 2);
            return taken.number;
        }

        State behindMove(int move) {
            State s = copy();
            s.make(move);
            return s;
        }

        int lead(int farm) {
            int mine = on(farm).stream().mapToInt(this::value).sum();
            return mine - on(1 - farm).stream().mapToInt(this::value).sum();
        }

        /** The move and the lead, or null. */
        int[] best(int farm, int ahead) {
            int[] best = null;
            for (int move : moves(farm)) {
                State s = behindMove(move);
                int[] reply = ahead == 1 ? null : s.best(1 - farm, 1);
                if (reply != null) {
                    s.make(reply[0]);
                }
                int lead = s.lead(farm);
                if (best == null || lead > best[1]) {
                    best = new int[] {move, lead};
                }
            }
            return best;
        }

        int draw() {
            z = z * 1103515245 + 12345;
            return z >>> 8;
        }

        void aDay() {
            int[] best = best(turn, 1);
            if (best != null) {
                make(best[0]);
            }
            turn = 1 - turn;
            if (draw() % 100 < cattle) {
                B b = at(draw() % 36);
                if (b != null) {
                    b.hay -= b.kind().eaten();
                    if (b.hay <= 0) {
                        b.hay = 1;
                        b.place = 36;
                    }
                }
            }
            if (draw() % 100 < rain) {
                for (B b : on()) {
                    b.hay--;
                    if (b.hay <= 0) {
                        b.hay = 1;
                        b.kind = 5;
                    }
                }
            }
            day++;
        }

        State behind(int n) {
            State s = copy();
            for (int i = 0; i < n; i++) {
                s.aDay();
            }
            return s;
        }

        int hayOn() {
            return on().stream().mapToInt(b -> b.hay).sum();
        }

        int add(int kind, int farm, int place, int hay) {
            B b = new B();
            b.number = bales.size();
            b.kind = kind;
            b.farm = farm;
            b.place = place;
            b.hay = hay;
            bales.add(b);
            return b.number;
        }
    }

    // ---- the object

    State s = new State();
    State image;
    final List<Byte> tape = new ArrayList<>();
    final List<Integer> waiting = new ArrayList<>();
    final Object[] sheets = new Object[4];
    final Object[] slots = new Object[5];

    static boolean in(int v, int least, int most) {
        return v >= least && v <= most;
    }

    boolean has(int bale) {
        return in(bale, 0, s.bales.size() - 1);
    }

    int ask(String call, int... a) {
        switch (call) {
            case "bale": case "told": case "at": case "goes": case "as": case "turns": case "set":
            case "rule": case "deal": case "seed":
                return askBales(call, a);
            case "move": case "moves": case "best": case "threats": case "lead": case "days":
                return askMoves(call, a);
            case "behind": case "ends": case "spared": case "given": case "storm": case "fee": case "fine":
                return askFuture(call, a);
            case "feed": case "trim": case "text": case "textTold": case "why":
                return askTexts(call, a);
            case "sheet": case "mark": case "pour": case "reads": case "copy":
                return askSheets(call, a);
            case "lay": case "ask": case "item": case "rest":
                return askSlots(call, a);
            default:
                return askRows(call, a);
        }
    }

    int askBales(String call, int[] a) {
        switch (call) {
            case "bale":
                if (!in(a[0], 0, 5) || !in(a[1], 0, 1) || !in(a[2], 0, 35) || !in(a[3], 1, 99)) {
                    return BAD;
                }
                return s.at(a[2]) != null ? NO : s.bales.size() == 12 ? FULL : s.add(a[0], a[1], a[2], a[3]);
            case "told": {
                if (!has(a[0]) || !in(a[1], 0, 8)) {
                    return BAD;
                }
                B b = s.bales.get(a[0]);
                return new int[] {b.kind, b.farm, b.place, b.hay, b.went, b.took, s.value(b), b.kind().eaten(),
                    b.kind().worth(b.hay)}[a[1]];
            }
            case "at":
                return !in(a[0], 0, 35) ? BAD : s.at(a[0]) == null ? NONE : s.at(a[0]).number;
            case "goes":
                return !has(a[0]) || !in(a[1], 0, 35) ? BAD : s.goes(s.bales.get(a[0]), a[1]) ? 1 : 0;
            case "as":
                if (!has(a[0]) || !in(a[1], 0, 5)) {
                    return BAD;
                }
                return isOf(s.bales.get(a[0]).kind, a[1]) ? s.bales.get(a[0]).hay : KIND;
            case "turns": {
                if (!has(a[0]) || !in(a[1], 0, 5)) {
                    return BAD;
                }
                int was = s.bales.get(a[0]).kind;
                s.bales.get(a[0]).kind = a[1];
                return was;
            }
            case "set":
                return set(a[0], a[1], a[2]);
            case "rule": {
                if (!in(a[0], 0, 2) || !in(a[1], 0, a[0] == 0 ? 1 : 100)) {
                    return BAD;
                }
                int was = a[0] == 0 ? s.turn : a[0] == 1 ? s.rain : s.cattle;
                s.turn = a[0] == 0 ? a[1] : s.turn;
                s.rain = a[0] == 1 ? a[1] : s.rain;
                s.cattle = a[0] == 2 ? a[1] : s.cattle;
                return was;
            }
            case "deal": {
                if (!in(a[0], 1, 12)) {
                    return BAD;
                }
                int came = 0;
                while (came < a[0] && s.bales.size() < 12) {
                    int kind = s.draw() % 6;
                    int farm = s.draw() % 2;
                    int place = s.draw() % 36;
                    while (s.at(place) != null) {
                        place = place == 35 ? 0 : place + 1;
                    }
                    s.add(kind, farm, place, 1 + s.draw() % 60);
                    came++;
                }
                return came;
            }
            default: {
                int was = s.z;
                s.z = a[0];
                return was;
            }
        }
    }

    int set(int bale, int what, int v) {
        if (!has(bale) || !in(what, 1, 3)) {
            return BAD;
        }
        B b = s.bales.get(bale);
        if (!in(v, what == 3 ? 1 : 0, what == 1 ? 1 : what == 2 ? 36 : 99)) {
            return BAD;
        }
        int was = what == 1 ? b.farm : what == 2 ? b.place : b.hay;
        if (what == 1) {
            b.farm = v;
        } else if (what == 2) {
            if (v < 36 && s.at(v) != null && s.at(v) != b) {
                return NO;
            }
            b.place = v;
        } else {
            b.hay = v;
        }
        return was;
    }

    int askMoves(String call, int[] a) {
        switch (call) {
            case "move": {
                if (!has(a[0]) || !in(a[1], 0, 35)) {
                    return BAD;
                }
                if (s.bales.get(a[0]).farm != s.turn || !s.goes(s.bales.get(a[0]), a[1])) {
                    return NO;
                }
                int taken = s.make(a[0] * 100 + a[1]);
                s.turn = 1 - s.turn;
                return taken;
            }
            case "moves":
                return in(a[0], 0, 1) ? s.moves(a[0]).size() : BAD;
            case "best": {
                if (!in(a[0], 0, 1) || !in(a[1], 1, 2) || !in(a[2], 0, 1)) {
                    return BAD;
                }
                int[] best = s.best(a[0], a[1]);
                return best == null ? NONE : best[a[2]];
            }
            case "threats": {
                if (!in(a[0], 0, 1)) {
                    return BAD;
                }
                int set = 0;
                for (int move : s.moves(1 - a[0])) {
                    B b = s.at(move % 100);
                    set |= b == null ? 0 : 1 << b.number;
                }
                return set;
            }
            case "lead":
                return in(a[0], 0, 1) ? s.lead(a[0]) : BAD;
            default: {
                if (!in(a[0], 1, 40)) {
                    return BAD;
                }
                int before = s.on().size();
                for (int i = 0; i < a[0] && s.day < 9999; i++) {
                    s.aDay();
                }
                return before - s.on().size();
            }
        }
    }

    int askFuture(String call, int[] a) {
        switch (call) {
            case "behind": {
                if (!in(a[0], 0, 40) || a[1] < 0 || a[1] > 2 && !has(a[1] - 3)) {
                    return BAD;
                }
                State then = s.behind(a[0]);
                return a[1] == 0 ? then.lead(0) : a[1] == 1 ? then.on().size() : a[1] == 2 ? then.hayOn()
                    : then.bales.get(a[1] - 3).place;
            }
            case "ends":
                for (int n = 0; n <= 100; n++) {
                    State then = s.behind(n);
                    if (then.on(0).isEmpty() || then.on(1).isEmpty()) {
                        return n;
                    }
                }
                return NONE;
            case "spared":
                return !in(a[0], 1, 12) || !in(a[1], 0, 1) ? BAD : spared(a[0], a[1]);
            case "given":
                return !in(a[0], 1, 12) || !in(a[1], 0, 1) ? BAD : given(a[0], a[1]);
            case "storm":
                if (!in(a[0], 0, 3) || !in(a[1], 0, 12) || !in(a[2], 0, 1)) {
                    return BAD;
                }
                return sheets[a[0]] == null ? NOTHING : storm(sheets[a[0]], a[1], a[2]);
            case "fee":
                return s.gives(1, s.day, s.day, s.turn);
            default:
                return !has(a[0]) ? BAD : s.gives(2, s.bales.get(a[0]).went, s.bales.get(a[0]).went, s.bales.get(a[0]).hay);
        }
    }

    int spared(int n, int what) {
        int[] found = null;
        for (B b : s.on()) {
            State gone = s.copy();
            gone.bales.get(b.number).place = 36;
            int lead = gone.behind(n).lead(b.farm);
            if (found == null || lead < found[1]) {
                found = new int[] {b.number, lead};
            }
        }
        return found == null ? NONE : found[what];
    }

    int given(int n, int what) {
        int[] found = null;
        for (B b : s.on(0)) {
            State other = s.copy();
            other.bales.get(b.number).farm = 1;
            int lead = other.behind(n).lead(0);
            if (found == null || Math.abs(lead) < Math.abs(found[1])) {
                found = new int[] {b.number, lead};
            }
        }
        return found == null ? NONE : found[what];
    }

    int storm(Object sheet, int n, int what) {
        int[] found = null;
        for (B b : s.on()) {
            State gone = s.copy();
            gone.bales.get(b.number).place = 36;
            State then = gone.behind(n);
            int together = 0;
            for (int k = 0; k < places(sheet); k++) {
                int place = k < then.bales.size() ? then.bales.get(k).place : 0;
                together += number(sheet, k) == NONE ? 0 : Math.abs(number(sheet, k) - place);
            }
            if (found == null || together < found[1]) {
                found = new int[] {b.number, together};
            }
        }
        return found == null ? NONE : found[what];
    }

    int askTexts(String call, int[] a) {
        switch (call) {
            case "feed":
                if (tape.size() > 84) {
                    return FULL;
                }
                for (int number : a) {
                    for (byte b : java.nio.ByteBuffer.allocate(4).putInt(number).array()) {
                        tape.add(b);
                    }
                }
                return tape.size();
            case "trim":
                if (!in(a[0], 0, tape.size())) {
                    return BAD;
                }
                tape.subList(a[0], tape.size()).clear();
                return a[0];
            case "text": {
                PlainText text = new PlainText(tape);
                tape.clear();
                if (text.fault >= 0) {
                    return -100 - text.fault;
                }
                if (s.texts.size() == 14) {
                    return FULL;
                }
                s.texts.add(text);
                return s.texts.size() - 1;
            }
            case "textTold":
                if (!in(a[0], 0, s.texts.size() - 1) || !in(a[1], 0, 1)) {
                    return BAD;
                }
                return a[1] == 0 ? s.texts.get(a[0]).key : s.texts.get(a[0]).pieces();
            default:
                return in(a[0], 0, 2) ? s.why(a[0]) : BAD;
        }
    }

    static int places(Object sheet) {
        return sheet instanceof short[] shorts ? shorts.length : ((float[]) sheet).length;
    }

    static int number(Object sheet, int k) {
        if (sheet instanceof short[] shorts) {
            return shorts[k];
        }
        float f = ((float[]) sheet)[k];
        return Float.isNaN(f) ? NONE : (int) f;
    }

    int askSheets(String call, int[] a) {
        if (!in(a[0], 0, 3)) {
            return BAD;
        }
        if (call.equals("sheet")) {
            if (!in(a[1], -1, 1) || a[1] >= 0 && a[2] > 24) {
                return BAD;
            }
            if (a[1] >= 0 && a[2] < 0) {
                return SIZE;
            }
            sheets[a[0]] = a[1] < 0 ? null : a[1] == 0 ? new short[a[2]] : new float[a[2]];
            return a[1] < 0 ? 0 : a[2];
        }
        if (call.equals("copy") && !in(a[2], 0, 3)) {
            return BAD;
        }
        Object sheet = sheets[a[0]];
        if (sheet == null) {
            return NOTHING;
        }
        switch (call) {
            case "mark":
                if (!in(a[1], 0, places(sheet) - 1)) {
                    return INDEX;
                }
                if (sheet instanceof short[] shorts) {
                    if (a[2] == NONE) {
                        return KIND;
                    }
                    shorts[a[1]] = (short) a[2];
                    return 1;
                }
                if (a[2] != NONE && !in(a[2], -99999, 99999)) {
                    return BAD;
                }
                ((float[]) sheet)[a[1]] = a[2] == NONE ? Float.NaN : a[2];
                return 1;
            case "pour": {
                int changed = 0;
                for (B b : s.bales) {
                    if (b.number < places(sheet) && number(sheet, b.number) != NONE) {
                        int hay = Math.max(1, Math.min(99, number(sheet, b.number)));
                        changed += hay == b.hay ? 0 : 1;
                        b.hay = hay;
                    }
                }
                return changed;
            }
            case "reads":
                for (int k = 0; k < places(sheet); k++) {
                    int v = number(sheet, k);
                    if (v != NONE && (!has(k) || s.bales.get(k).place != v)) {
                        return k;
                    }
                }
                return NONE;
            default:
                if (sheets[a[2]] == null) {
                    return NOTHING;
                }
                try {
                    System.arraycopy(sheet, a[1], sheets[a[2]], a[3], a[4]);
                    return a[4];
                } catch (ArrayStoreException e) {
                    return KIND;
                } catch (IndexOutOfBoundsException e) {
                    return INDEX;
                }
        }
    }

    int askSlots(String call, int[] a) {
        if (!in(a[0], 0, 4)) {
            return BAD;
        }
        Object held = slots[a[0]];
        if (call.equals("lay")) {
            if (!in(a[1], 0, 3) || a[1] == 1 && !has(a[2]) || a[1] == 2 && !in(a[2], 0, 3)) {
                return BAD;
            }
            if (a[1] == 2 && sheets[a[2]] == null) {
                return NOTHING;
            }
            slots[a[0]] = a[1] == 0 ? null : a[1] == 1 ? s.bales.get(a[2]).copy() : a[1] == 3 ? (Object) a[2]
                : sheets[a[2]] instanceof short[] shorts ? shorts.clone() : ((float[]) sheets[a[2]]).clone();
            return held == null ? 0 : held instanceof B ? 1 : held instanceof Integer ? 3 : 2;
        }
        if (call.equals("ask") && !in(a[1], 0, 5)) {
            return BAD;
        }
        if (held == null) {
            return NOTHING;
        }
        switch (call) {
            case "ask":
                return held instanceof B b && isOf(b.kind, a[1]) ? b.kind().worth(b.hay) : KIND;
            case "item":
                if (held instanceof B || held instanceof Integer) {
                    return KIND;
                }
                if (!in(a[1], 0, places(held) - 1)) {
                    return INDEX;
                }
                return number(held, a[1]) == NONE ? KIND : number(held, a[1]);
            default:
                return !(held instanceof Integer) ? KIND : a[1] == 0 ? NO : (Integer) held % a[1];
        }
    }

    /** What check would have told of n days. */
    List<Integer> daysTold(int n) {
        List<Integer> told = new ArrayList<>();
        State then = image.copy();
        for (int i = 0; i < n && then.day < 9999; i++) {
            then.aDay();
            told.add(then.lead(0));
            told.add(then.hayOn());
        }
        return told;
    }

    int askRows(String call, int[] a) {
        switch (call) {
            case "tell":
                if (waiting.size() == 60) {
                    return FULL;
                }
                waiting.add(a[0]);
                return waiting.size();
            case "check": {
                List<Integer> waited = List.copyOf(waiting);
                waiting.clear();
                if (!in(a[0], 1, 30)) {
                    return BAD;
                }
                if (image == null) {
                    return NO;
                }
                List<Integer> due = daysTold(a[0]);
                int right = 0;
                while (right < due.size() && right < waited.size() && due.get(right).equals(waited.get(right))) {
                    right++;
                }
                return due.equals(waited) ? 0 : 1 + right;
            }
            case "keep":
                image = s.copy();
                return image.bales.size();
            case "back":
                if (image == null) {
                    return NO;
                }
                s = image.copy();
                return s.bales.size();
            case "count":
                if (!in(a[0], 0, 9)) {
                    return BAD;
                }
                return new int[] {s.bales.size(), s.day, s.turn, s.rain, s.cattle, s.on().size(), s.texts.size(),
                    waiting.size(), tape.size(), s.z}[a[0]];
            default:
                throw new IllegalArgumentException(call);
        }
    }
}
