/** Hay on a board: two farms that play with bales on a common of six by six. */
public final class HayBoard {
    public static final int BAD = -1000000001, NO = -1000000002, FULL = -1000000003, NONE = -1000000005, NOTHING = -1000000011, KIND = -1000000012, INDEX = -1000000013, SIZE = -1000000014;

    private static final int BALE = 0, ROLL = 1, STACK = 2, CART = 3, RICK = 4, ROTTEN = 5, KINDS = 6;
    private static final int FARMS = 2, MOST_BALES = 12, LEAST_HAY = 1, MOST_HAY = 99, MOST_DRAWN_HAY = 60;
    private static final int SIDE = 6, PLACES = 36, GONE = 36, MOVE_BASE = 100, PER_CENT = 100;
    private static final int LAST_DAY = 9999, MOST_DAYS = 40, MOST_DAYS_THOUGHT = 12, MOST_DAYS_TOLD = 30, MOST_DAYS_TO_END = 100;
    private static final int HAY = 0, FEE = 1, FINE = 2, KEYS = 3, MOST_NAMES = 3, MOST_TEXTS = 14, FIRST_FAULT = -100;
    private static final int TAPE_BYTES = 96, BYTES_FED = 12, BLANK = 32, MOST_DIGITS = 4, MOST_OPEN = 8;
    private static final int TEST_LEVEL = 2, LEVELS = 5, NO_LEVEL = -1;
    private static final int SHEETS = 4, MISSING = -1, SHORTS = 0, FLOATS = 1, SHEET_PLACES = 24, MOST_FLOAT = 99999;
    private static final int SLOTS = 5, NO_THING = 0, BALE_THING = 1, SHEET_THING = 2, NUMBER_THING = 3;
    private static final int MOST_WAITING = 60, PLACE_ASKED = 3;

    private final Law[] laws = new Law[MOST_TEXTS];
    private final Tape tape = new Tape();
    private final Common now;
    private final Common thought;
    private final Common image;
    private boolean imageKept;
    private final Choice choice = new Choice();
    private final Sheet[] sheets = new Sheet[SHEETS];
    private final Slot[] slots = new Slot[SLOTS];
    private final int[] waiting = new int[MOST_WAITING];
    private int waits;

    public HayBoard() {
        for (int i = 0; i < MOST_TEXTS; i++) {
            laws[i] = new Law();
        }
        for (int i = 0; i < SHEETS; i++) {
            sheets[i] = new Sheet();
        }
        for (int i = 0; i < SLOTS; i++) {
            slots[i] = new Slot();
        }
        now = new Common(laws);
        thought = new Common(laws);
        image = new Common(laws);
    }

    // ---- bales, places

    public int bale(int kind, int farm, int place, int hay) {
        if (!isKind(kind) || !isFarm(farm) || !isPlace(place) || !isHay(hay)) {
            return BAD;
        }
        if (now.on[place] != NONE) {
            return NO;
        }
        if (now.many >= MOST_BALES) {
            return FULL;
        }
        return now.adds(kind, farm, place, hay);
    }

    public int told(int bale, int what) {
        if (!now.has(bale)) {
            return BAD;
        }
        Bale asked = now.bales[bale];
        switch (what) {
            case 0: return asked.kind;
            case 1: return asked.farm;
            case 2: return asked.place;
            case 3: return asked.hay;
            case 4: return asked.went;
            case 5: return asked.took;
            case 6: return now.valueWith(asked.kind, asked.hay, asked.place, asked.went);
            case 7: return asked.eaten();
            case 8: return asked.worth();
            default: return BAD;
        }
    }

    public int at(int place) {
        return isPlace(place) ? now.on[place] : BAD;
    }

    public int goes(int bale, int place) {
        if (!now.has(bale) || !isPlace(place)) {
            return BAD;
        }
        return now.mayGo(bale, place) ? 1 : 0;
    }

    public int as(int bale, int kind) {
        if (!now.has(bale) || !isKind(kind)) {
            return BAD;
        }
        Bale asked = now.bales[bale];
        return asked.isOf(kind) ? asked.hay : KIND;
    }

    public int turns(int bale, int kind) {
        if (!now.has(bale) || !isKind(kind)) {
            return BAD;
        }
        int was = now.bales[bale].kind;
        now.bales[bale].kind = kind;
        return was;
    }

    public int set(int bale, int what, int v) {
        if (!now.has(bale)) {
            return BAD;
        }
        switch (what) {
            case 1: return setFarm(now.bales[bale], v);
            case 2: return setPlace(bale, v);
            case 3: return setHay(now.bales[bale], v);
            default: return BAD;
        }
    }

    private static int setFarm(Bale bale, int farm) {
        if (!isFarm(farm)) {
            return BAD;
        }
        int was = bale.farm;
        bale.farm = farm;
        return was;
    }

    private int setPlace(int bale, int place) {
        if (!isPlace(place) && place != GONE) {
            return BAD;
        }
        if (isPlace(place) && now.on[place] != NONE && now.on[place] != bale) {
            return NO;
        }
        int was = now.bales[bale].place;
        now.puts(bale, place);
        return was;
    }

    private static int setHay(Bale bale, int hay) {
        if (!isHay(hay)) {
            return BAD;
        }
        int was = bale.hay;
        bale.hay = hay;
        return was;
    }

    public int rule(int what, int v) {
        if (!isWithin(v, 0, what == 0 ? FARMS - 1 : PER_CENT)) {
            return BAD;
        }
        int was;
        switch (what) {
            case 0:
                was = now.turn;
                now.turn = v;
                return was;
            case 1:
                was = now.rain;
                now.rain = v;
                return was;
            case 2:
                was = now.cattle;
                now.cattle = v;
                return was;
            default:
                return BAD;
        }
    }

    public int deal(int n) {
        if (!isWithin(n, 1, MOST_BALES)) {
            return BAD;
        }
        int came = Math.min(n, MOST_BALES - now.many);
        for (int i = 0; i < came; i++) {
            now.addsDrawn();
        }
        return came;
    }

    public int seed(int v) {
        int was = now.z;
        now.z = v;
        return was;
    }

    // ---- moves, days

    public int move(int bale, int place) {
        if (!now.has(bale) || !isPlace(place)) {
            return BAD;
        }
        if (now.bales[bale].farm != now.turn || !now.mayGo(bale, place)) {
            return NO;
        }
        int taken = now.makes(bale, place);
        now.turnGoesOn();
        return taken;
    }

    public int moves(int farm) {
        return isFarm(farm) ? now.listMoves(farm) : BAD;
    }

    public int best(int farm, int ahead, int what) {
        if (!isFarm(farm) || !isWithin(ahead, 1, 2) || !isWithin(what, 0, 1)) {
            return BAD;
        }
        if (ahead == 1) {
            now.findBest(farm);
            return now.best.tells(what);
        }
        lookTwoAhead(farm);
        return choice.tells(what);
    }

    private void lookTwoAhead(int farm) {
        choice.clear();
        int listed = now.listMoves(farm);
        for (int i = 0; i < listed; i++) {
            int move = now.moveList[i];
            thought.becomes(now);
            thought.makes(move / MOVE_BASE, move % MOVE_BASE);
            thought.makesBest(1 - farm);
            int lead = thought.leadOf(farm);
            choice.offer(move, -lead, lead);
        }
    }

    public int threats(int farm) {
        if (!isFarm(farm)) {
            return BAD;
        }
        int set = 0;
        for (int bale = 0; bale < now.many; bale++) {
            if (now.isOnOf(bale, farm) && now.isThreatened(bale)) {
                set |= 1 << bale;
            }
        }
        return set;
    }

    public int lead(int farm) {
        return isFarm(farm) ? now.leadOf(farm) : BAD;
    }

    public int days(int n) {
        if (!isWithin(n, 1, MOST_DAYS)) {
            return BAD;
        }
        int before = now.manyOn();
        now.passDays(Math.min(n, LAST_DAY - now.day));
        return before - now.manyOn();
    }

    // ---- what will be

    public int behind(int n, int what) {
        if (!isWithin(n, 0, MOST_DAYS) || !isWithin(what, 0, PLACE_ASKED + now.many - 1)) {
            return BAD;
        }
        thought.becomes(now);
        thought.passDays(n);
        switch (what) {
            case 0: return thought.leadOf(0);
            case 1: return thought.manyOn();
            case 2: return thought.hayOn();
            default: return thought.bales[what - PLACE_ASKED].place;
        }
    }

    public int ends() {
        thought.becomes(now);
        for (int day = 0; day <= MOST_DAYS_TO_END; day++) {
            if (thought.manyOnOf(0) == 0 || thought.manyOnOf(1) == 0) {
                return day;
            }
            thought.passDays(1);
        }
        return NONE;
    }

    public int spared(int n, int what) {
        if (!isWithin(n, 1, MOST_DAYS_THOUGHT) || !isWithin(what, 0, 1)) {
            return BAD;
        }
        choice.clear();
        for (int bale = 0; bale < now.many; bale++) {
            if (now.isOn(bale)) {
                thinkGone(bale);
                thought.passDays(n);
                int lead = thought.leadOf(now.bales[bale].farm);
                choice.offer(bale, lead, lead);
            }
        }
        return choice.tells(what);
    }

    public int given(int n, int what) {
        if (!isWithin(n, 1, MOST_DAYS_THOUGHT) || !isWithin(what, 0, 1)) {
            return BAD;
        }
        choice.clear();
        for (int bale = 0; bale < now.many; bale++) {
            if (now.isOnOf(bale, 0)) {
                thought.becomes(now);
                thought.bales[bale].farm = 1;
                thought.passDays(n);
                int lead = thought.leadOf(0);
                choice.offer(bale, Math.abs(lead), lead);
            }
        }
        return choice.tells(what);
    }

    public int storm(int sheet, int n, int what) {
        if (!isSheet(sheet) || !isWithin(n, 0, MOST_DAYS_THOUGHT) || !isWithin(what, 0, 1)) {
            return BAD;
        }
        if (sheets[sheet].isMissing()) {
            return NOTHING;
        }
        choice.clear();
        for (int bale = 0; bale < now.many; bale++) {
            if (now.isOn(bale)) {
                thinkGone(bale);
                thought.passDays(n);
                int differences = thought.differencesFrom(sheets[sheet]);
                choice.offer(bale, differences, differences);
            }
        }
        return choice.tells(what);
    }

    private void thinkGone(int bale) {
        thought.becomes(now);
        thought.puts(bale, GONE);
    }

    public int fee() {
        int text = now.counting[FEE];
        return isText(text) ? laws[text].gives(now.day, now.turn, 0) : now.day;
    }

    public int fine(int bale) {
        if (!now.has(bale)) {
            return BAD;
        }
        Bale asked = now.bales[bale];
        int text = now.counting[FINE];
        return isText(text) ? laws[text].gives(asked.went, asked.hay, 0) : asked.went;
    }

    // ---- texts

    public int feed(int a, int b, int c) {
        if (tape.length + BYTES_FED > TAPE_BYTES) {
            return FULL;
        }
        tape.adds(a);
        tape.adds(b);
        tape.adds(c);
        return tape.length;
    }

    public int trim(int n) {
        if (!isWithin(n, 0, tape.length)) {
            return BAD;
        }
        tape.length = n;
        return n;
    }

    public int text() {
        int fault = tape.read();
        if (fault != NONE) {
            return FIRST_FAULT - fault;
        }
        int text = now.texts;
        if (!isText(text)) {
            return FULL;
        }
        laws[text].becomes(tape.draft);
        now.counting[tape.draft.key] = text;
        now.texts++;
        return text;
    }

    public int textTold(int text, int what) {
        if (!isWithin(text, 0, now.texts - 1) || !isWithin(what, 0, 1)) {
            return BAD;
        }
        return what == 0 ? laws[text].key : laws[text].pieces;
    }

    public int why(int key) {
        return isWithin(key, 0, KEYS - 1) ? now.counting[key] : BAD;
    }

    // ---- sheets, slots

    public int sheet(int sheet, int sort, int n) {
        if (!isSheet(sheet) || !isWithin(sort, MISSING, FLOATS)) {
            return BAD;
        }
        if (sort == MISSING) {
            sheets[sheet].clear(MISSING, 0);
            return 0;
        }
        if (n > SHEET_PLACES) {
            return BAD;
        }
        if (n < 0) {
            return SIZE;
        }
        sheets[sheet].clear(sort, n);
        return n;
    }

    public int mark(int sheet, int place, int v) {
        if (!isSheet(sheet)) {
            return BAD;
        }
        Sheet marked = sheets[sheet];
        if (marked.isMissing()) {
            return NOTHING;
        }
        if (!marked.has(place)) {
            return INDEX;
        }
        if (marked.sort == SHORTS) {
            if (v == NONE) {
                return KIND;
            }
            marked.row[place] = (short) v;
            return 1;
        }
        if (v != NONE && !isWithin(v, -MOST_FLOAT, MOST_FLOAT)) {
            return BAD;
        }
        marked.row[place] = v;
        return 1;
    }

    public int pour(int sheet) {
        if (!isSheet(sheet)) {
            return BAD;
        }
        Sheet poured = sheets[sheet];
        if (poured.isMissing()) {
            return NOTHING;
        }
        int changed = 0;
        for (int k = 0; k < now.many; k++) {
            int was = now.bales[k].hay;
            if (poured.isNumber(k)) {
                now.bales[k].hay = held(poured.row[k], LEAST_HAY, MOST_HAY);
            }
            if (now.bales[k].hay != was) {
                changed++;
            }
        }
        return changed;
    }

    public int reads(int sheet) {
        if (!isSheet(sheet)) {
            return BAD;
        }
        Sheet read = sheets[sheet];
        if (read.isMissing()) {
            return NOTHING;
        }
        for (int k = 0; k < read.places; k++) {
            if (read.isNumber(k) && !(now.has(k) && now.bales[k].place == read.row[k])) {
                return k;
            }
        }
        return NONE;
    }

    public int copy(int from, int place, int to, int at, int many) {
        if (!isSheet(from) || !isSheet(to)) {
            return BAD;
        }
        Sheet source = sheets[from];
        Sheet target = sheets[to];
        if (source.isMissing() || target.isMissing()) {
            return NOTHING;
        }
        if (source.sort != target.sort) {
            return KIND;
        }
        if (!source.hasMany(place, many) || !target.hasMany(at, many)) {
            return INDEX;
        }
        System.arraycopy(source.row, place, target.row, at, many);
        return many;
    }

    public int lay(int slot, int thing, int k) {
        if (!isSlot(slot) || !isWithin(thing, NO_THING, NUMBER_THING)) {
            return BAD;
        }
        Slot laid = slots[slot];
        if (thing == BALE_THING) {
            if (!now.has(k)) {
                return BAD;
            }
            laid.bale.becomes(now.bales[k]);
        }
        if (thing == SHEET_THING) {
            if (!isSheet(k)) {
                return BAD;
            }
            if (sheets[k].isMissing()) {
                return NOTHING;
            }
            laid.sheet.becomes(sheets[k]);
        }
        if (thing == NUMBER_THING) {
            laid.number = k;
        }
        int was = laid.thing;
        laid.thing = thing;
        return was;
    }

    public int ask(int slot, int kind) {
        if (!isSlot(slot) || !isKind(kind)) {
            return BAD;
        }
        int finding = findingOf(slots[slot], BALE_THING);
        if (finding != NONE) {
            return finding;
        }
        Bale asked = slots[slot].bale;
        return asked.isOf(kind) ? asked.worth() : KIND;
    }

    public int item(int slot, int place) {
        if (!isSlot(slot)) {
            return BAD;
        }
        int finding = findingOf(slots[slot], SHEET_THING);
        if (finding != NONE) {
            return finding;
        }
        Sheet asked = slots[slot].sheet;
        if (!asked.has(place)) {
            return INDEX;
        }
        return asked.isNumber(place) ? asked.row[place] : KIND;
    }

    public int rest(int slot, int n) {
        if (!isSlot(slot)) {
            return BAD;
        }
        int finding = findingOf(slots[slot], NUMBER_THING);
        if (finding != NONE) {
            return finding;
        }
        return n == 0 ? NO : slots[slot].number % n;
    }

    private static int findingOf(Slot slot, int thing) {
        if (slot.thing == NO_THING) {
            return NOTHING;
        }
        return slot.thing == thing ? NONE : KIND;
    }

    // ---- rows, images

    public int tell(int v) {
        if (waits >= MOST_WAITING) {
            return FULL;
        }
        waiting[waits] = v;
        waits++;
        return waits;
    }

    public int check(int n) {
        int told = waits;
        waits = 0;
        if (!isWithin(n, 1, MOST_DAYS_TOLD)) {
            return BAD;
        }
        if (!imageKept) {
            return NO;
        }
        thought.becomes(image);
        int days = Math.min(n, LAST_DAY - image.day);
        int right = 0;
        for (int day = 0; day < days; day++) {
            thought.passDays(1);
            if (!isWaiting(right, told, thought.leadOf(0))) {
                return 1 + right;
            }
            right++;
            if (!isWaiting(right, told, thought.hayOn())) {
                return 1 + right;
            }
            right++;
        }
        return right == told ? 0 : 1 + right;
    }

    private boolean isWaiting(int number, int told, int due) {
        return number < told && waiting[number] == due;
    }

    public int keep() {
        image.becomes(now);
        imageKept = true;
        return image.many;
    }

    public int back() {
        if (!imageKept) {
            return NO;
        }
        now.becomes(image);
        return now.many;
    }

    public int count(int what) {
        switch (what) {
            case 0: return now.many;
            case 1: return now.day;
            case 2: return now.turn;
            case 3: return now.rain;
            case 4: return now.cattle;
            case 5: return now.manyOn();
            case 6: return now.texts;
            case 7: return waits;
            case 8: return tape.length;
            case 9: return now.z;
            default: return BAD;
        }
    }

    // ---- what is within its bounds

    private static boolean isWithin(int v, int least, int most) {
        return v >= least && v <= most;
    }

    private static int held(int v, int least, int most) {
        return Math.max(least, Math.min(v, most));
    }

    private static boolean isKind(int kind) {
        return isWithin(kind, 0, KINDS - 1);
    }

    private static boolean isFarm(int farm) {
        return isWithin(farm, 0, FARMS - 1);
    }

    private static boolean isPlace(int place) {
        return place >= 0 && place < PLACES;
    }

    private static boolean isHay(int hay) {
        return isWithin(hay, LEAST_HAY, MOST_HAY);
    }

    private static boolean isText(int text) {
        return isWithin(text, 0, MOST_TEXTS - 1);
    }

    private static boolean isSheet(int sheet) {
        return isWithin(sheet, 0, SHEETS - 1);
    }

    private static boolean isSlot(int slot) {
        return isWithin(slot, 0, SLOTS - 1);
    }

    /** One BALE, and what its KIND alone tells. */
    private static final class Bale {
        int kind, farm, place = GONE, hay = LEAST_HAY, went, took;

        void becomes(Bale other) {
            kind = other.kind;
            farm = other.farm;
            place = other.place;
            hay = other.hay;
            went = other.went;
            took = other.took;
        }

        boolean isOf(int asked) {
            return asked == BALE || asked == kind
                || asked == ROLL && kind == CART
                || asked == STACK && kind == RICK;
        }

        int eaten() {
            switch (kind) {
                case STACK: return 3;
                case RICK: return 3 + 1;
                case ROTTEN: return 0;
                default: return 5;
            }
        }

        int worth() {
            switch (kind) {
                case ROLL: return hay + 4;
                case CART: return 2 * (hay + 4);
                case STACK: return 99 - hay;
                case RICK: return 99 - hay - 7;
                case ROTTEN: return 2;
                default: return hay;
            }
        }

        int hayWith(Bale taken) {
            return Math.min(hay + taken.hay / 2, MOST_HAY);
        }

        void getsWet() {
            hay--;
            if (hay < LEAST_HAY) {
                hay = LEAST_HAY;
                kind = ROTTEN;
            }
        }
    }

    /** The least of what is offered; of several the one that was offered first. */
    private static final class Choice {
        int which = NONE;
        private int least, lead;

        void clear() {
            which = NONE;
        }

        void offer(int offered, int rank, int told) {
            if (which == NONE || rank < least) {
                which = offered;
                least = rank;
                lead = told;
            }
        }

        int tells(int what) {
            return which == NONE || what == 0 ? which : lead;
        }
    }

    /** All that AN IMAGE keeps, with what a DAY does to it. */
    private static final class Common {
        private final Law[] laws;
        final Bale[] bales = new Bale[MOST_BALES];
        final int[] on = new int[PLACES];
        final int[] counting = new int[KEYS];
        final int[] moveList = new int[MOST_BALES * PLACES];
        private final int[] values = new int[MOST_BALES];
        final Choice best = new Choice();
        int many, turn, rain, cattle, day, z = 1, texts;

        Common(Law[] laws) {
            this.laws = laws;
            for (int i = 0; i < MOST_BALES; i++) {
                bales[i] = new Bale();
            }
            for (int i = 0; i < PLACES; i++) {
                on[i] = NONE;
            }
            for (int i = 0; i < KEYS; i++) {
                counting[i] = NONE;
            }
        }

        void becomes(Common other) {
            for (int i = 0; i < other.many; i++) {
                bales[i].becomes(other.bales[i]);
            }
            System.arraycopy(other.on, 0, on, 0, PLACES);
            System.arraycopy(other.counting, 0, counting, 0, KEYS);
            many = other.many;
            turn = other.turn;
            rain = other.rain;
            cattle = other.cattle;
            day = other.day;
            z = other.z;
            texts = other.texts;
        }

        // ---- bales

        boolean has(int bale) {
            return isWithin(bale, 0, many - 1);
        }

        boolean isOn(int bale) {
            return isPlace(bales[bale].place);
        }

        boolean isOnOf(int bale, int farm) {
            return isOn(bale) && bales[bale].farm == farm;
        }

        int manyOn() {
            return manyOnOf(0) + manyOnOf(1);
        }

        int manyOnOf(int farm) {
            int found = 0;
            for (int bale = 0; bale < many; bale++) {
                if (isOnOf(bale, farm)) {
                    found++;
                }
            }
            return found;
        }

        int hayOn() {
            int hay = 0;
            for (int bale = 0; bale < many; bale++) {
                if (isOn(bale)) {
                    hay += bales[bale].hay;
                }
            }
            return hay;
        }

        /** The caller has seen to it that there is room, and that the PLACE is free. */
        int adds(int kind, int farm, int place, int hay) {
            int number = many;
            Bale added = bales[number];
            added.kind = kind;
            added.farm = farm;
            added.hay = hay;
            added.went = 0;
            added.took = 0;
            // One that stood here before an IMAGE came back holds no PLACE any more.
            added.place = GONE;
            puts(number, place);
            many++;
            return number;
        }

        void addsDrawn() {
            int kind = draw() % KINDS;
            int farm = draw() % FARMS;
            int place = draw() % PLACES;
            for (int i = 0; i < PLACES && on[place] != NONE; i++) {
                place = (place + 1) % PLACES;
            }
            adds(kind, farm, place, LEAST_HAY + draw() % MOST_DRAWN_HAY);
        }

        void puts(int bale, int place) {
            if (isOn(bale)) {
                on[bales[bale].place] = NONE;
            }
            bales[bale].place = place;
            if (isPlace(place)) {
                on[place] = bale;
            }
        }

        int draw() {
            z = z * 1103515245 + 12345;
            return z >>> 8;
        }

        // ---- moves

        boolean mayGo(int bale, int place) {
            Bale mover = bales[bale];
            int from = mover.place;
            if (!isPlace(from) || from == place) {
                return false;
            }
            if (on[place] != NONE && bales[on[place]].farm == mover.farm) {
                return false;
            }
            int rows = Math.abs(place / SIDE - from / SIDE);
            int columns = Math.abs(place % SIDE - from % SIDE);
            boolean straight = rows == 0 || columns == 0;
            switch (mover.kind) {
                case ROLL: return straight && isClear(from, place, rows + columns);
                case CART: return straight && rows + columns <= 3 && isClear(from, place, rows + columns);
                case STACK: return rows == 1 && columns == 1;
                case RICK: return rows <= 1 && columns <= 1;
                case ROTTEN: return false;
                default: return rows + columns == 1;
            }
        }

        private boolean isClear(int from, int to, int steps) {
            int step = steps == 0 ? 0 : (to - from) / steps;
            for (int i = 1; i < steps; i++) {
                if (on[from + i * step] != NONE) {
                    return false;
                }
            }
            return true;
        }

        boolean isThreatened(int bale) {
            for (int other = 0; other < many; other++) {
                if (mayGo(other, bales[bale].place)) {
                    return true;
                }
            }
            return false;
        }

        /** How many MOVES a FARM has; they stand in moveList then, the least first. */
        int listMoves(int farm) {
            int listed = 0;
            for (int bale = 0; bale < many; bale++) {
                for (int place = 0; place < PLACES && isOnOf(bale, farm); place++) {
                    if (mayGo(bale, place)) {
                        moveList[listed] = MOVE_BASE * bale + place;
                        listed++;
                    }
                }
            }
            return listed;
        }

        int makes(int bale, int place) {
            Bale mover = bales[bale];
            int taken = on[place];
            if (taken != NONE) {
                mover.hay = mover.hayWith(bales[taken]);
                mover.took++;
                puts(taken, GONE);
            }
            puts(bale, place);
            mover.went++;
            return taken;
        }

        void turnGoesOn() {
            turn = 1 - turn;
        }

        // ---- lead

        /** VALUE that a BALE of a KIND would have. */
        int valueWith(int kind, int hay, int place, int went) {
            int text = counting[HAY];
            int asBale = isText(text) ? held(laws[text].gives(hay, place, went), 0, 999) : hay;
            int asStack = Math.min(2 * asBale, 999);
            switch (kind) {
                case ROLL: return asBale + 9;
                case CART: return (asBale + 9 + 20) / 2;
                case STACK: return asStack;
                case RICK: return Math.max(asStack - 5, 0);
                case ROTTEN: return 1;
                default: return asBale;
            }
        }

        /** LEAD of a FARM; VALUE of each BALE on THE COMMON stands in values then. */
        int leadOf(int farm) {
            int lead = 0;
            for (int number = 0; number < many; number++) {
                Bale bale = bales[number];
                if (isOn(number)) {
                    values[number] = valueWith(bale.kind, bale.hay, bale.place, bale.went);
                    lead += bale.farm == farm ? values[number] : -values[number];
                }
            }
            return lead;
        }

        /** BEST MOVE of a FARM, looking 1 ahead, with LEAD behind it, is in best then. */
        void findBest(int farm) {
            best.clear();
            int lead = leadOf(farm);
            int listed = listMoves(farm);
            for (int i = 0; i < listed; i++) {
                int number = moveList[i] / MOVE_BASE;
                int place = moveList[i] % MOVE_BASE;
                Bale mover = bales[number];
                int taken = on[place];
                int hay = taken == NONE ? mover.hay : mover.hayWith(bales[taken]);
                // Only the one that goes and the one that it takes count otherwise behind a MOVE.
                int then = lead - values[number] + valueWith(mover.kind, hay, place, mover.went + 1);
                if (taken != NONE) {
                    then += values[taken];
                }
                best.offer(moveList[i], -then, then);
            }
        }

        void makesBest(int farm) {
            findBest(farm);
            if (best.which != NONE) {
                makes(best.which / MOVE_BASE, best.which % MOVE_BASE);
            }
        }

        // ---- days

        void passDays(int n) {
            for (int i = 0; i < n; i++) {
                makesBest(turn);
                turnGoesOn();
                graze();
                rainFalls();
                day++;
            }
        }

        private void graze() {
            if (draw() % PER_CENT >= cattle) {
                return;
            }
            int grazed = on[draw() % PLACES];
            if (grazed == NONE) {
                return;
            }
            Bale bale = bales[grazed];
            bale.hay -= bale.eaten();
            if (bale.hay < LEAST_HAY) {
                bale.hay = LEAST_HAY;
                puts(grazed, GONE);
            }
        }

        private void rainFalls() {
            if (draw() % PER_CENT >= rain) {
                return;
            }
            for (int number = 0; number < many; number++) {
                if (isOn(number)) {
                    bales[number].getsWet();
                }
            }
        }

        int differencesFrom(Sheet sheet) {
            int together = 0;
            for (int k = 0; k < sheet.places; k++) {
                if (sheet.isNumber(k)) {
                    int place = has(k) ? bales[k].place : 0;
                    together += Math.abs(place - sheet.row[k]);
                }
            }
            return together;
        }
    }

    /** A TEXT that can be worked out. */
    private static final class Law {
        // Each step stands behind what it works on: a NUMBER as it is, a NAME as -1 less its
        // place among the NAMES of the KEY, a sign as its byte below 0 (below all NAMES).
        private final int[] steps = new int[TAPE_BYTES];
        private final int[] pile = new int[TAPE_BYTES];
        private int length;
        int key, pieces;

        void clear() {
            pieces = 0;
            length = 0;
        }

        void becomes(Law other) {
            System.arraycopy(other.steps, 0, steps, 0, TAPE_BYTES);
            key = other.key;
            pieces = other.pieces;
            length = other.length;
        }

        void addNumber(int number) {
            addStep(number);
            pieces++;
        }

        void addName(int name) {
            addStep(-1 - name);
            pieces++;
        }

        void addSign(int sign) {
            addStep(-sign);
        }

        private void addStep(int step) {
            if (length < TAPE_BYTES) {
                steps[length] = step;
                length++;
            }
        }

        /** What it gives, told what its NAMES are. */
        int gives(int first, int second, int third) {
            int top = 0;
            for (int i = 0; i < length; i++) {
                int step = steps[i];
                if (step >= -MOST_NAMES) {
                    pile[top] = step >= 0 ? step : step == -1 ? first : step == -2 ? second : third;
                    top++;
                } else if (step == -'!') {
                    if (top > 0) {
                        pile[top - 1] = pile[top - 1] == 0 ? 1 : 0;
                    }
                } else if (top > 1) {
                    top--;
                    pile[top - 1] = workOut(-step, pile[top - 1], pile[top]);
                }
            }
            return pile[0];
        }

        private static int workOut(int sign, int left, int right) {
            switch (sign) {
                case '|': return left != 0 || right != 0 ? 1 : 0;
                case '&': return left != 0 && right != 0 ? 1 : 0;
                case '<': return left < right ? 1 : 0;
                case '=': return left == right ? 1 : 0;
                case '>': return left > right ? 1 : 0;
                case '+': return left + right;
                case '-': return left - right;
                case '*': return left * right;
                default: return right == 0 ? 0 : left / right;
            }
        }
    }

    /** THE TAPE, and how it is read. */
    private static final class Tape {
        private final int[] bytes = new int[TAPE_BYTES];
        final Law draft = new Law();
        int length;
        // The first byte of the next word or sign, or the end: where a reading stops is its FAULT.
        private int at;

        /** The caller has seen to it that there is room. */
        void adds(int number) {
            for (int shift = 24; shift >= 0; shift -= 8) {
                bytes[length] = number >>> shift & 255;
                length++;
            }
        }

        /** Uses THE TAPE up: the place of its FAULT, or NONE and the TEXT is in draft. */
        int read() {
            draft.clear();
            passTo(0);
            boolean whole = readKey() && readLevel(0, 0, 0) && at == length;
            length = 0;
            return whole ? NONE : at;
        }

        private boolean readKey() {
            int key = isWord("hay") ? HAY : isWord("fee") ? FEE : isWord("fine") ? FINE : NONE;
            if (key == NONE) {
                return false;
            }
            draft.key = key;
            passTo(wordEnd());
            return true;
        }

        /** Level 0 is the loosest; what the last level joins are PIECES. */
        private boolean readLevel(int level, int open, int nots) {
            if (level >= LEVELS) {
                return readPiece(open, nots);
            }
            if (!readLevel(level + 1, open, nots)) {
                return false;
            }
            int most = level == TEST_LEVEL ? 1 : TAPE_BYTES;
            for (int i = 0; i < most && levelOf(byteAt(at)) == level; i++) {
                int sign = byteAt(at);
                passTo(at + 1);
                if (!readLevel(level + 1, open, nots)) {
                    return false;
                }
                draft.addSign(sign);
            }
            return true;
        }

        private boolean readPiece(int open, int nots) {
            int first = byteAt(at);
            if (first == '!') {
                return nots < MOST_OPEN && readNot(open, nots + 1);
            }
            if (first == '(') {
                return open < MOST_OPEN && readInner(open + 1, nots);
            }
            if (isWordByte(byteAt(at - 1))) {
                return false;
            }
            return isDigit(first) ? readNumber() : isLetter(first) && readName();
        }

        private boolean readNot(int open, int nots) {
            passTo(at + 1);
            if (!readPiece(open, nots)) {
                return false;
            }
            draft.addSign('!');
            return true;
        }

        private boolean readInner(int open, int nots) {
            passTo(at + 1);
            if (!readLevel(0, open, nots) || byteAt(at) != ')') {
                return false;
            }
            passTo(at + 1);
            return true;
        }

        private boolean readNumber() {
            int end = wordEnd();
            if (end - at > MOST_DIGITS) {
                return false;
            }
            int number = 0;
            for (int i = at; i < end; i++) {
                number = 10 * number + byteAt(i) - '0';
            }
            draft.addNumber(number);
            passTo(end);
            return true;
        }

        private boolean readName() {
            int end = wordEnd();
            String names = draft.key == HAY ? "hpw" : draft.key == FEE ? "dt" : "wh";
            int name = names.indexOf((char) byteAt(at));
            if (end - at != 1 || name < 0) {
                return false;
            }
            draft.addName(name);
            passTo(end);
            return true;
        }

        private void passTo(int place) {
            at = place;
            while (at < length && byteAt(at) == BLANK) {
                at++;
            }
        }

        private boolean isWord(String word) {
            if (wordEnd() - at != word.length()) {
                return false;
            }
            for (int i = 0; i < word.length(); i++) {
                if (byteAt(at + i) != word.charAt(i)) {
                    return false;
                }
            }
            return true;
        }

        private int wordEnd() {
            boolean letters = isLetter(byteAt(at));
            int end = at;
            while (end < length && (letters ? isLetter(byteAt(end)) : isDigit(byteAt(end)))) {
                end++;
            }
            return end;
        }

        private int byteAt(int place) {
            return place >= 0 && place < length ? bytes[place] : NONE;
        }

        private static int levelOf(int sign) {
            switch (sign) {
                case '|': return 0;
                case '&': return 1;
                case '<': case '=': case '>': return TEST_LEVEL;
                case '+': case '-': return 3;
                case '*': case '/': return 4;
                default: return NO_LEVEL;
            }
        }

        private static boolean isWordByte(int sign) {
            return isLetter(sign) || isDigit(sign);
        }

        private static boolean isLetter(int sign) {
            return sign >= 'a' && sign <= 'z';
        }

        private static boolean isDigit(int sign) {
            return sign >= '0' && sign <= '9';
        }
    }

    /** A SHEET, or none if it is MISSING; NO NUMBER is held as NONE, which no number here can be. */
    private static final class Sheet {
        final int[] row = new int[SHEET_PLACES];
        int sort = MISSING, places;

        void clear(int newSort, int newPlaces) {
            sort = newSort;
            places = newPlaces;
            for (int i = 0; i < SHEET_PLACES; i++) {
                row[i] = 0;
            }
        }

        void becomes(Sheet other) {
            System.arraycopy(other.row, 0, row, 0, SHEET_PLACES);
            sort = other.sort;
            places = other.places;
        }

        boolean isMissing() {
            return sort == MISSING;
        }

        boolean has(int place) {
            return isWithin(place, 0, places - 1);
        }

        boolean hasMany(int place, int n) {
            return place >= 0 && n >= 0 && place <= places - n;
        }

        boolean isNumber(int place) {
            return has(place) && row[place] != NONE;
        }
    }

    /** A SLOT: of what it can hold, thing tells which it does. */
    private static final class Slot {
        final Bale bale = new Bale();
        final Sheet sheet = new Sheet();
        int thing = NO_THING, number;
    }
}
