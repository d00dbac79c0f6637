/**
 * Gloves that are given back by order of regret.
 *
 * The words in capitals are those of the document (../shared/DOC.md); every public call answers as its promise
 * there says. The calls here look at what they are told and leave the work to the classes below, which trust it.
 */
public final class GloveRegret {
    public static final int BAD = -1, NOT = -2, FULL = -3, STATE = -5, VOID = -2000000000;

    private static final int MISSING = -11, OTHER_KIND = -12, NO_PLACE = -13, SIZE_BELOW_0 = -14;

    private static final int MOST_GUESTS = 9, MOST_SLIPS = 12, MOST_BYTES = 120, MOST_CHANGES = 40;
    private static final int MOST_BODIES = 50, MOST_TRACED = 24, MOST_SHELVES = 6, MOST_ELEMENTS = 60;
    private static final int MOST_THOUGHT = 60, MOST_AHEAD = 30, LAST_MINUTE = 199, MOST_REGRET = 99, MOST_LOOKS = 9;
    /** Stands where a GUEST's number could: nobody is held over, a place on the STAIR was not seen. */
    private static final int NOBODY = 9;

    /** What a number is of, as mend() and of() are told it. */
    private static final int REGRET = 0, FADES = 1, LOOKS = 2, HAND = 3, SIZE = 4, GONE = 5;
    private static final int AT = 6, WEIGHT = 7, MINUTE = 8, BY = 9;
    private static final int[] LEAST = {0, 0, 0, 0, 5, 0, 0, 1, 0};
    private static final int[] MOST = {99, 9, 9, 1, 9, 1, 199, 30, 199};

    /** What LED tells. */
    private static final int LED_SLIPS = 0, LED_MINUTES = 1, LED_GONE = 2, LED_LOOKS = 3, LED_REGRET = 4;
    private static final int LED_NUMBERS = 5;

    private final Tray tray = new Tray();
    private final int[] tape = new int[MOST_BYTES];
    private int tapeLength = 0;
    private final LawText text = new LawText();
    private final Law reading = new Law();
    private final Thought thought = new Thought(tray, reading);
    private final Turns turns = new Turns(thought);
    private final int[] ledger = new int[LED_NUMBERS];
    private final Image kept = new Image();
    private final Changes changes = new Changes();
    private final Hooks hooks = new Hooks();
    private final Shelf[] shelves = new Shelf[MOST_SHELVES];

    public GloveRegret() {
        for (int i = 0; i < MOST_SHELVES; i++) {
            shelves[i] = new Shelf();
        }
    }

    // ---- guests, slips

    public int guest(int hand, int size) {
        if (!isWithin(hand, HAND) || !isWithin(size, SIZE)) {
            return BAD;
        }
        if (tray.guests >= MOST_GUESTS) {
            return FULL;
        }
        return tray.addGuest(hand, size);
    }

    public int guests(int shelf, int i, int n) {
        if (!isShelf(shelf) || n < 1 || n > MOST_GUESTS) {
            return BAD;
        }
        Shelf from = shelves[shelf];
        if (from.holds == Shelf.NOTHING) {
            return 0;
        }
        if (!from.isRowOf(Shelf.BYTES)) {
            return OTHER_KIND;
        }
        int came = 0;
        for (int k = 0; k < n && guestComes(from, i + 4L * k); k++) {
            came++;
        }
        return came;
    }

    public int slip(int by, int at, int weight) {
        if (!tray.hasGuest(by) || !isWithin(at, AT) || !isWithin(weight, WEIGHT)) {
            return BAD;
        }
        if (tray.slips >= MOST_SLIPS) {
            return FULL;
        }
        return tray.addSlip(by, at, weight);
    }

    public int mend(int number, int what, int v) {
        if (what > MINUTE || !tray.hasNumber(number, what) || !isWithin(v, what)) {
            return BAD;
        }
        int was = tray.numberOf(number, what);
        if (was != v) {
            tray.setNumber(number, what, v);
            changes.add(number, what, was, v);
        }
        return was;
    }

    public int of(int number, int what) {
        return tray.hasNumber(number, what) ? tray.numberOf(number, what) : BAD;
    }

    public int feed(int letter) {
        if (letter < 0 || letter > 255) {
            return BAD;
        }
        if (tapeLength >= MOST_BYTES) {
            return FULL;
        }
        tape[tapeLength] = letter;
        tapeLength++;
        return tapeLength;
    }

    public int law() {
        int fault = text.faultOf(tape, tapeLength);
        tapeLength = 0;
        if (fault >= 0) {
            return -100 - fault;
        }
        reading.become(text);
        return 1;
    }

    // ---- in thought

    public int later(int n, int guest, int what) {
        if (!isThought(n) || !tray.hasGuest(guest) || what < 0 || what > 2) {
            return BAD;
        }
        thought.startBehind(n);
        if (what == 0) {
            return reading.readOf(thought.tray, guest);
        }
        return what == 1 ? thought.tray.regret[guest] : reading.placeInOrder(thought.tray, guest);
    }

    public int first(int n) {
        if (!isThought(n)) {
            return BAD;
        }
        thought.startBehind(n);
        return reading.sorriest(thought.tray, NOBODY);
    }

    public int peak(int guest, int what) {
        if (!tray.hasGuest(guest) || !isChoiceOfTwo(what)) {
            return BAD;
        }
        thought.startBehind(0);
        int when = 0;
        int most = thought.tray.regret[guest];
        for (int n = 1; n <= MOST_THOUGHT; n++) {
            thought.tray.passMinute();
            if (thought.tray.regret[guest] > most) {
                most = thought.tray.regret[guest];
                when = n;
            }
        }
        return what == 0 ? when : most;
    }

    public int goesAs(int n, int k) {
        if (!isThought(n) || k < 0) {
            return BAD;
        }
        thought.startBehind(n);
        thought.allGo(NOBODY);
        return k < thought.went ? thought.goers[k] : NOT;
    }

    public int goesWhen(int n, int guest) {
        if (!isThought(n) || !tray.hasGuest(guest)) {
            return BAD;
        }
        if (!tray.isLeft(guest)) {
            return NOT;
        }
        thought.startBehind(n);
        thought.allGo(NOBODY);
        return n + thought.placeOfGoer(guest);
    }

    public int waits(int n) {
        if (!isThought(n)) {
            return BAD;
        }
        int all = 0;
        int left = tray.howManyLeft();
        for (int place = 0; place < left; place++) {
            all += n + place;
        }
        return all;
    }

    public int sorry(int guest, int k) {
        if (!tray.hasGuest(guest) || k < 0 || k >= MOST_GUESTS) {
            return BAD;
        }
        if (!tray.isLeft(guest)) {
            return NOT;
        }
        for (int looks = 0; looks <= MOST_LOOKS; looks++) {
            thought.startBehind(0);
            thought.tray.looks[guest] = looks;
            thought.allGo(NOBODY);
            if (thought.placeOfGoer(guest) <= k) {
                return looks;
            }
        }
        return NOT;
    }

    public int slipWhen(int guest, int wn, int what) {
        int weight = wn / 100;
        int n = wn % 100;
        if (!tray.hasGuest(guest) || !isWithin(weight, WEIGHT) || n > MOST_AHEAD || !isChoiceOfTwo(what)) {
            return BAD;
        }
        if (!tray.isLeft(guest)) {
            return STATE;
        }
        int when = 0;
        int soonest = MOST_GUESTS;
        for (int ahead = 0; ahead <= MOST_AHEAD; ahead++) {
            int place = thought.placeBySlip(guest, ahead, weight, n);
            if (place < soonest) {
                soonest = place;
                when = ahead;
            }
        }
        return what == 0 ? when : soonest;
    }

    public int held(int what) {
        if (!isChoiceOfTwo(what)) {
            return BAD;
        }
        int who = NOBODY;
        int least = thought.regretOfGoers(NOBODY);
        for (int g = 0; g < tray.guests; g++) {
            int all = thought.regretOfGoers(g);
            if (all < least) {
                least = all;
                who = g;
            }
        }
        return what == 0 ? who : least;
    }

    // ---- pairs, the stair

    public int pairs(int what) {
        if (what < 0 || what > 2) {
            return BAD;
        }
        int pairs = 0;
        int leastOver = NOT;
        for (int size = MOST[SIZE]; size >= LEAST[SIZE]; size--) {
            int lefts = tray.howManyGloves(0, size);
            int rights = tray.howManyGloves(1, size);
            pairs += Math.min(lefts, rights);
            if (lefts != rights) {
                leastOver = size;
            }
        }
        if (what == 0) {
            return pairs;
        }
        return what == 1 ? tray.howManyLeft() - 2 * pairs : leastOver;
    }

    public int judge(int shelf) {
        if (!isShelf(shelf)) {
            return BAD;
        }
        int refusal = refusalOfBytes(shelves[shelf]);
        if (refusal != 0) {
            return refusal;
        }
        thought.startBehind(0);
        thought.allGo(NOBODY);
        return thought.firstOtherwise(shelves[shelf]);
    }

    public int fits(int shelf, int guest, int what) {
        if (!isShelf(shelf) || !tray.hasGuest(guest) || what < 0 || what > 5) {
            return BAD;
        }
        int refusal = refusalOfBytes(shelves[shelf]);
        if (refusal != 0) {
            return refusal;
        }
        int tried = what < 2 ? LOOKS : what < 4 ? FADES : REGRET;
        int fitting = 0;
        int least = NOT;
        for (int v = MOST[tried]; v >= 0; v--) {
            thought.startBehind(0);
            thought.tray.setNumber(guest, tried, v);
            thought.allGo(NOBODY);
            if (thought.firstOtherwise(shelves[shelf]) == NOT) {
                fitting++;
                least = v;
            }
        }
        return what % 2 == 0 ? fitting : least;
    }

    public int upside(int what) {
        if (!isChoiceOfTwo(what)) {
            return BAD;
        }
        int otherwise = 0;
        int alike = 0;
        for (int a = 0; a < tray.guests; a++) {
            for (int b = a + 1; b < tray.guests; b++) {
                if (tray.isLeft(a) && tray.isLeft(b)) {
                    int more = reading.readOf(tray, a) - reading.readOf(tray, b);
                    // of like ones the lesser number comes first
                    boolean aComesFirst = more >= 0;
                    alike += more == 0 ? 1 : 0;
                    int feltMore = tray.regret[a] - tray.regret[b];
                    otherwise += (aComesFirst ? feltMore < 0 : feltMore > 0) ? 1 : 0;
                }
            }
        }
        return what == 0 ? otherwise : alike;
    }

    public int byTurns(int ab, int n, int what) {
        int one = ab / 10;
        int other = ab % 10;
        if (!tray.isLeft(one) || !tray.isLeft(other) || one == other || n < 1 || n > Turns.MOST_TIMES
                || !isChoiceOfTwo(what)) {
            return VOID;
        }
        turns.begin(one, other);
        int firstWay = Turns.AS_HE_DOES;
        int aheadBy = turns.best(tray.looks[one], tray.looks[other], n - 1, false);
        for (int way = 0; way < Turns.AS_HE_DOES; way++) {
            int ahead = turns.best(Turns.afterTurn(tray.looks[one], way), tray.looks[other], n - 1, false);
            if (ahead > aheadBy) {
                aheadBy = ahead;
                firstWay = way;
            }
        }
        return what == 0 ? aheadBy : firstWay;
    }

    public int drawn(int seed, int nmw, int guest) {
        int suppers = nmw / 10000;
        int minutes = nmw / 100 % 100;
        int wine = nmw % 100;
        boolean toldWell = suppers >= 1 && suppers <= 30 && minutes >= 1 && minutes <= MOST_THOUGHT && wine <= 12;
        if (!toldWell || guest != -1 && !tray.hasGuest(guest)) {
            return BAD;
        }
        thought.seed = seed;
        int answer = 0;
        for (int i = 0; i < suppers; i++) {
            thought.sup(minutes, wine);
            if (guest == -1) {
                answer += thought.tray.regretOfAll();
            } else if (reading.sorriest(thought.tray, NOBODY) == guest) {
                answer++;
            }
        }
        return answer;
    }

    // ---- in deed

    public int slips(int guest, int weight) {
        if (!tray.hasGuest(guest) || !isWithin(weight, WEIGHT)) {
            return BAD;
        }
        if (tray.slips >= MOST_SLIPS) {
            return FULL;
        }
        if (!tray.isLeft(guest)) {
            return STATE;
        }
        ledger[LED_SLIPS]++;
        return tray.addSlip(guest, tray.minute, weight);
    }

    public int minute() {
        ledger[LED_MINUTES]++;
        tray.passMinute();
        return tray.minute;
    }

    public int goes() {
        int who = reading.sorriest(tray, NOBODY);
        if (!tray.hasGuest(who)) {
            return NOT;
        }
        ledger[LED_GONE]++;
        ledger[LED_REGRET] += tray.regret[who];
        ledger[LED_MINUTES]++;
        tray.gone[who] = 1;
        tray.passMinute();
        return who;
    }

    public int looks(int guest, int v) {
        if (!tray.hasGuest(guest) || !isWithin(v, LOOKS)) {
            return BAD;
        }
        if (!tray.isLeft(guest)) {
            return STATE;
        }
        ledger[LED_LOOKS]++;
        int was = tray.looks[guest];
        tray.looks[guest] = v;
        return was;
    }

    public int led(int what) {
        return what >= 0 && what < LED_NUMBERS ? ledger[what] : BAD;
    }

    public int image() {
        kept.take(tray, ledger);
        return ledger[LED_GONE];
    }

    public int back() {
        if (!kept.isTaken) {
            return STATE;
        }
        kept.layBack(tray, ledger);
        return ledger[LED_GONE];
    }

    public int undo() {
        return changes.stepBack(tray);
    }

    public int redo() {
        return changes.stepOn(tray);
    }

    // ---- acts, shelves

    public int body(int kind) {
        if (!Hooks.isKind(kind)) {
            return BAD;
        }
        return hooks.bodies >= MOST_BODIES ? FULL : hooks.add(kind);
    }

    public int act(int body, int act, int x) {
        return hooks.perform(body, act, x);
    }

    public int trace(int i) {
        return i >= 0 && i < hooks.ran && i < MOST_TRACED ? hooks.traced[i] : BAD;
    }

    public int keep(int shelf, int body) {
        if (!isShelf(shelf) || body != -1 && !hooks.hasBody(body)) {
            return BAD;
        }
        shelves[shelf].holds = body == -1 ? Shelf.NOTHING : Shelf.HOOK;
        shelves[shelf].hook = body;
        return 1;
    }

    public int row(int shelf, int sort, int n) {
        if (!isShelf(shelf) || sort < Shelf.BYTES || sort > Shelf.BOOLEANS || n > MOST_ELEMENTS) {
            return BAD;
        }
        if (n < 0) {
            return SIZE_BELOW_0;
        }
        shelves[shelf].holdRow(sort, n);
        return 1;
    }

    public int put(int shelf, int i, long v) {
        if (!isShelf(shelf)) {
            return BAD;
        }
        int refusal = refusalOfPlace(shelves[shelf], i);
        if (refusal != 0) {
            return refusal;
        }
        shelves[shelf].elements[i] = shelves[shelf].cut(v);
        return 1;
    }

    public long element(int shelf, int i) {
        if (!isShelf(shelf) || refusalOfPlace(shelves[shelf], i) != 0) {
            return Long.MIN_VALUE;
        }
        return shelves[shelf].elements[i];
    }

    public int shift(int shelf, int i, int other, int j, int n) {
        if (!isShelf(shelf) || !isShelf(other)) {
            return BAD;
        }
        Shelf from = shelves[shelf];
        Shelf to = shelves[other];
        if (from.holds == Shelf.NOTHING || to.holds == Shelf.NOTHING) {
            return MISSING;
        }
        if (from.holds != Shelf.ROW || !to.isRowOf(from.sort)) {
            return OTHER_KIND;
        }
        if (!from.hasPlaces(i, n) || !to.hasPlaces(j, n)) {
            return NO_PLACE;
        }
        System.arraycopy(from.elements, i, to.elements, j, n);
        return n;
    }

    public int taken(int shelf, int k) {
        if (!isShelf(shelf) || !Hooks.isKind(k)) {
            return BAD;
        }
        Shelf from = shelves[shelf];
        if (from.holds == Shelf.NOTHING) {
            return MISSING;
        }
        if (from.holds != Shelf.HOOK || !hooks.isOfKind(from.hook, k)) {
            return OTHER_KIND;
        }
        return hooks.kinds[from.hook];
    }

    public int count(int what) {
        switch (what) {
            case 0: return tray.guests;
            case 1: return tray.slips;
            case 2: return tapeLength;
            case 3: return changes.done;
            case 4: return hooks.bodies;
            case 5: return hooks.ran;
            default: return BAD;
        }
    }

    // ---- what calls are told

    private static boolean isWithin(int v, int what) {
        return what >= 0 && what < LEAST.length && v >= LEAST[what] && v <= MOST[what];
    }

    private static boolean isThought(int n) {
        return n >= 0 && n <= MOST_THOUGHT;
    }

    private static boolean isChoiceOfTwo(int what) {
        return what == 0 || what == 1;
    }

    private static boolean isShelf(int shelf) {
        return shelf >= 0 && shelf < MOST_SHELVES;
    }

    /** 0, if a ROW of bytes is there. */
    private static int refusalOfBytes(Shelf shelf) {
        if (shelf.holds == Shelf.NOTHING) {
            return MISSING;
        }
        return shelf.isRowOf(Shelf.BYTES) ? 0 : OTHER_KIND;
    }

    /** 0, if a ROW is there and has the place. */
    private static int refusalOfPlace(Shelf shelf, int i) {
        if (shelf.holds == Shelf.NOTHING) {
            return MISSING;
        }
        if (shelf.holds != Shelf.ROW) {
            return OTHER_KIND;
        }
        return i >= 0 && i < shelf.size ? 0 : NO_PLACE;
    }

    /** The place is a long: one behind the largest int is behind the ROW's end, not ahead of its beginning. */
    private boolean guestComes(Shelf from, long place) {
        if (place < 0 || place + 3 >= from.size || tray.guests >= MOST_GUESTS) {
            return false;
        }
        int at = (int) place;
        for (int what = REGRET; what <= HAND; what++) {
            if (!isWithin((int) from.elements[at + what], what)) {
                return false;
            }
        }
        int g = tray.addGuest((int) from.elements[at + HAND], 7);
        for (int what = REGRET; what < HAND; what++) {
            tray.setNumber(g, what, (int) from.elements[at + what]);
        }
        return true;
    }

    /** GUESTS, SLIPS and the MINUTE: one is the true one, another one is worked on in thought. */
    private static final class Tray {
        final int[] regret = new int[MOST_GUESTS];
        final int[] fades = new int[MOST_GUESTS];
        final int[] looks = new int[MOST_GUESTS];
        final int[] hand = new int[MOST_GUESTS];
        final int[] size = new int[MOST_GUESTS];
        final int[] gone = new int[MOST_GUESTS];
        // one more than are kept: SLIP WHEN tries one more in thought
        final int[] by = new int[MOST_SLIPS + 1];
        final int[] at = new int[MOST_SLIPS + 1];
        final int[] weight = new int[MOST_SLIPS + 1];
        int guests = 0;
        int slips = 0;
        int minute = 0;

        boolean hasGuest(int g) {
            return g >= 0 && g < guests;
        }

        boolean isLeft(int g) {
            return hasGuest(g) && gone[g] == 0;
        }

        int howManyLeft() {
            int left = 0;
            for (int g = 0; g < guests; g++) {
                left += 1 - gone[g];
            }
            return left;
        }

        int howManyGloves(int ofHand, int ofSize) {
            int gloves = 0;
            for (int g = 0; g < guests; g++) {
                if (gone[g] == 0 && hand[g] == ofHand && size[g] == ofSize) {
                    gloves++;
                }
            }
            return gloves;
        }

        int regretOfAll() {
            int all = 0;
            for (int g = 0; g < guests; g++) {
                all += regret[g];
            }
            return all;
        }

        int addGuest(int ofHand, int ofSize) {
            if (guests >= MOST_GUESTS) {
                return FULL;
            }
            int g = guests;
            regret[g] = 0;
            fades[g] = 1;
            looks[g] = 0;
            hand[g] = ofHand;
            size[g] = ofSize;
            gone[g] = 0;
            guests++;
            return g;
        }

        int addSlip(int ofGuest, int atMinute, int ofWeight) {
            if (slips >= by.length) {
                return FULL;
            }
            int s = slips;
            by[s] = ofGuest;
            at[s] = atMinute;
            weight[s] = ofWeight;
            slips++;
            return s;
        }

        boolean hasNumber(int number, int what) {
            if (what >= REGRET && what <= GONE) {
                return hasGuest(number);
            }
            if (what == MINUTE) {
                return number == 0;
            }
            return (what == AT || what == WEIGHT || what == BY) && number >= 0 && number < slips;
        }

        int numberOf(int number, int what) {
            if (!hasNumber(number, what)) {
                return BAD;
            }
            return what == MINUTE ? minute : numbersOf(what)[number];
        }

        void setNumber(int number, int what, int v) {
            if (!hasNumber(number, what)) {
                return;
            }
            if (what == MINUTE) {
                minute = v;
            } else {
                numbersOf(what)[number] = v;
            }
        }

        private int[] numbersOf(int what) {
            switch (what) {
                case REGRET: return regret;
                case FADES: return fades;
                case LOOKS: return looks;
                case HAND: return hand;
                case SIZE: return size;
                case GONE: return gone;
                case AT: return at;
                case WEIGHT: return weight;
                default: return by;
            }
        }

        /** More and less are held within bounds in one go: what is above 99 in between is not lost. */
        void passMinute() {
            for (int s = 0; s < slips; s++) {
                if (at[s] == minute && isLeft(by[s])) {
                    regret[by[s]] += weight[s];
                }
            }
            for (int g = 0; g < guests; g++) {
                if (gone[g] == 0) {
                    regret[g] = Math.max(0, Math.min(MOST_REGRET, regret[g] - fades[g]));
                }
            }
            minute = Math.min(LAST_MINUTE, minute + 1);
        }

        /** HAND of one is read by the law; SIZE is not, so a thought does without. */
        void becomeLike(Tray other) {
            guests = other.guests;
            slips = other.slips;
            minute = other.minute;
            System.arraycopy(other.regret, 0, regret, 0, MOST_GUESTS);
            System.arraycopy(other.fades, 0, fades, 0, MOST_GUESTS);
            System.arraycopy(other.looks, 0, looks, 0, MOST_GUESTS);
            System.arraycopy(other.hand, 0, hand, 0, MOST_GUESTS);
            System.arraycopy(other.gone, 0, gone, 0, MOST_GUESTS);
            System.arraycopy(other.by, 0, by, 0, MOST_SLIPS);
            System.arraycopy(other.at, 0, at, 0, MOST_SLIPS);
            System.arraycopy(other.weight, 0, weight, 0, MOST_SLIPS);
        }
    }

    /**
     * Brings a TEXT into the order in which it is worked out: numbers as they are, names and signs below 0.
     *
     * Signs that wait for their right side are stacked by rank, so no text, however nested, calls deeper.
     */
    private static final class LawText {
        static final int MOST_CODE = MOST_BYTES + 1, MOST_OPEN = 6;
        /** In code and on the stack - ahead of an O, which is not the - between two P; no TEXT has this byte. */
        static final int MINUS = '~';
        static final int OPENED = 0, OR = 1, AND = 2, COMPARED = 3, ADDED = 4, MULTIPLIED = 5, AHEAD = 6;

        final int[] code = new int[MOST_CODE];
        int size = 0;
        private final int[] waiting = new int[MOST_BYTES];
        private int waitingNow = 0;
        private int open = 0;
        private int digitsMore = 0;
        private int numberAt = 0;
        private boolean wantsOperand = true;
        private boolean isAsked = false;

        /** The place of the FAULT, below 0 if there is none. */
        int faultOf(int[] bytes, int length) {
            begin();
            for (int i = 0; i < length && i < bytes.length; i++) {
                if (!(wantsOperand ? takesOperand(bytes[i]) : takesSign(bytes[i]))) {
                    return i;
                }
            }
            if (wantsOperand || !endsE()) {
                return length;
            }
            emit(-';');
            return -1;
        }

        private void begin() {
            size = 0;
            waitingNow = 0;
            open = 0;
            digitsMore = 0;
            wantsOperand = true;
            isAsked = false;
        }

        private boolean takesOperand(int c) {
            if (isDigit(c)) {
                numberAt = size;
                emit(c - '0');
                endOperand(3);
                return true;
            }
            if (isName(c)) {
                emit(-c);
                endOperand(0);
                return true;
            }
            if (c != '(' && c != '!' && c != '-' || open >= MOST_OPEN) {
                return false;
            }
            open++;
            await(c == '-' ? MINUS : c);
            return true;
        }

        private boolean takesSign(int c) {
            if (isDigit(c)) {
                return takesDigit(c);
            }
            if (c == ')') {
                return closes();
            }
            if (c == '?' || c == ';') {
                return endsPart(c);
            }
            int rank = rankOf(c);
            if (rank < OR || rank > MULTIPLIED) {
                return false;
            }
            release(rank == COMPARED ? rank + 1 : rank);
            if (rank == COMPARED && waitingNow > 0 && rankOf(waiting[waitingNow - 1]) == COMPARED) {
                return false;
            }
            await(c);
            wantsOperand = true;
            return true;
        }

        private boolean takesDigit(int c) {
            if (digitsMore <= 0 || numberAt >= code.length) {
                return false;
            }
            digitsMore--;
            code[numberAt] = code[numberAt] * 10 + (c - '0');
            return true;
        }

        private boolean closes() {
            release(OR);
            if (waitingNow == 0) {
                return false;
            }
            waitingNow--;
            open--;
            endOperand(0);
            return true;
        }

        private boolean endsPart(int c) {
            if (!endsE() || c == '?' && isAsked) {
                return false;
            }
            isAsked = c == '?';
            if (c == ';') {
                emit(-';');
            }
            wantsOperand = true;
            return true;
        }

        /** Whether no ( is open. */
        private boolean endsE() {
            release(OR);
            return waitingNow == 0;
        }

        private void endOperand(int digits) {
            digitsMore = digits;
            wantsOperand = false;
            open -= release(AHEAD);
        }

        /** Signs of a rank or a higher one have their right side now: how many. */
        private int release(int rank) {
            int released = 0;
            for (int i = waitingNow - 1; i >= 0 && rankOf(waiting[i]) >= rank; i--) {
                emit(-waiting[i]);
                released++;
            }
            waitingNow -= released;
            return released;
        }

        private void await(int sign) {
            if (waitingNow < waiting.length) {
                waiting[waitingNow] = sign;
                waitingNow++;
            }
        }

        private void emit(int piece) {
            if (size < code.length) {
                code[size] = piece;
                size++;
            }
        }

        private static boolean isDigit(int c) {
            return c >= '0' && c <= '9';
        }

        private static boolean isName(int c) {
            return c == 'r' || c == 'l' || c == 'h' || c == 'm' || c == 'n' || c == 'g';
        }

        private static int rankOf(int sign) {
            switch (sign) {
                case '|': return OR;
                case '&': return AND;
                case '<': case '=': case '>': return COMPARED;
                case '+': case '-': return ADDED;
                case '*': case '/': case '%': return MULTIPLIED;
                case '!': case MINUS: return AHEAD;
                default: return OPENED;
            }
        }
    }

    /** How one is READ, and THE ORDER that comes of it. */
    private static final class Law {
        private final int[] code = new int[LawText.MOST_CODE];
        private int size = 0;
        private final int[] stack = new int[LawText.MOST_CODE];
        private int stacked = 0;

        void become(LawText text) {
            System.arraycopy(text.code, 0, code, 0, LawText.MOST_CODE);
            size = text.size;
        }

        int readOf(Tray tray, int g) {
            if (!tray.hasGuest(g)) {
                return 0;
            }
            int worth = size == 0 ? worthWithoutText(tray, g) : 0;
            boolean isCounted = false;
            stacked = 0;
            for (int i = 0; i < size && !isCounted; i++) {
                int piece = code[i];
                if (piece >= 0) {
                    push(piece);
                } else if (LawText.isName(-piece)) {
                    push(worthOfName(-piece, tray, g));
                } else if (piece != -';') {
                    workOut(-piece);
                } else {
                    int last = pop();
                    // a LINE without a first E leaves nothing but its worth
                    isCounted = stacked == 0 || pop() != 0;
                    worth = isCounted ? last : 0;
                }
            }
            return Math.max(0, Math.min(MOST_REGRET, worth));
        }

        /** The first of THE ORDER, but for one who is held over; NOT: nobody. */
        int sorriest(Tray tray, int heldOver) {
            int who = NOT;
            int most = -1;
            for (int g = 0; g < tray.guests; g++) {
                if (tray.gone[g] == 0 && g != heldOver) {
                    int read = readOf(tray, g);
                    if (read > most) {
                        most = read;
                        who = g;
                    }
                }
            }
            return who;
        }

        int placeInOrder(Tray tray, int guest) {
            if (!tray.isLeft(guest)) {
                return NOT;
            }
            int read = readOf(tray, guest);
            int ahead = 0;
            for (int g = 0; g < tray.guests; g++) {
                if (tray.gone[g] == 0 && g != guest) {
                    int other = readOf(tray, g);
                    if (other > read || other == read && g < guest) {
                        ahead++;
                    }
                }
            }
            return ahead;
        }

        private static int worthWithoutText(Tray tray, int g) {
            return tray.regret[g] + 2 * tray.looks[g] - (tray.hand[g] == 0 ? 5 : 0);
        }

        private static int worthOfName(int name, Tray tray, int g) {
            switch (name) {
                case 'r': return tray.regret[g];
                case 'l': return tray.looks[g];
                case 'h': return tray.hand[g];
                case 'm': return tray.minute;
                case 'n': return tray.howManyLeft();
                default: return g;
            }
        }

        private void workOut(int sign) {
            int b = pop();
            if (sign == '!') {
                push(b == 0 ? 1 : 0);
            } else if (sign == LawText.MINUS) {
                push(-b);
            } else {
                push(worthOfTwo(sign, pop(), b));
            }
        }

        private static int worthOfTwo(int sign, int a, int b) {
            switch (sign) {
                case '|': return a != 0 || b != 0 ? 1 : 0;
                case '&': return a != 0 && b != 0 ? 1 : 0;
                case '<': return a < b ? 1 : 0;
                case '=': return a == b ? 1 : 0;
                case '>': return a > b ? 1 : 0;
                case '+': return a + b;
                case '-': return a - b;
                case '*': return a * b;
                case '/': return b == 0 ? 0 : a / b;
                default: return b == 0 ? 0 : a % b;
            }
        }

        private void push(int v) {
            if (stacked < stack.length) {
                stack[stacked] = v;
                stacked++;
            }
        }

        private int pop() {
            if (stacked <= 0) {
                return 0;
            }
            stacked--;
            return stack[stacked];
        }
    }

    /** What would come: all is worked on a copy, the true TRAY stays as it is. */
    private static final class Thought {
        private final Tray real;
        private final Law law;
        final Tray tray = new Tray();
        final int[] goers = new int[MOST_GUESTS];
        int went = 0;
        int regretAsTheyWent = 0;
        int seed = 0;

        Thought(Tray real, Law law) {
            this.real = real;
            this.law = law;
        }

        void startBehind(int n) {
            tray.becomeLike(real);
            for (int i = 0; i < n; i++) {
                tray.passMinute();
            }
        }

        /** ONE GOES each minute, till all are GONE; who is held over goes when no other is left. */
        void allGo(int heldOver) {
            went = 0;
            regretAsTheyWent = 0;
            for (int i = 0; i < MOST_GUESTS; i++) {
                int who = law.sorriest(tray, heldOver);
                if (who < 0 && tray.isLeft(heldOver)) {
                    who = heldOver;
                }
                if (!tray.isLeft(who)) {
                    return;
                }
                goers[went] = who;
                went++;
                regretAsTheyWent += tray.regret[who];
                tray.gone[who] = 1;
                tray.passMinute();
            }
        }

        /** MOST_GUESTS, behind all, if he does not go. */
        int placeOfGoer(int g) {
            for (int i = 0; i < went; i++) {
                if (goers[i] == g) {
                    return i;
                }
            }
            return MOST_GUESTS;
        }

        int placeBySlip(int guest, int ahead, int weight, int n) {
            tray.becomeLike(real);
            tray.addSlip(guest, real.minute + ahead, weight);
            for (int i = 0; i < n; i++) {
                tray.passMinute();
            }
            allGo(NOBODY);
            return placeOfGoer(guest);
        }

        int regretOfGoers(int heldOver) {
            startBehind(0);
            allGo(heldOver);
            return regretAsTheyWent;
        }

        /** The first of the ROW that is not as they went just now; NOT: all is so. */
        int firstOtherwise(Shelf row) {
            for (int i = 0; i < row.size && i < MOST_GUESTS; i++) {
                if (i >= went || row.elements[i] != NOBODY && row.elements[i] != goers[i]) {
                    return i;
                }
            }
            return NOT;
        }

        /** One supper by draws; the next one goes on with the seed as this one leaves it. */
        void sup(int minutes, int wine) {
            tray.becomeLike(real);
            for (int i = 0; i < minutes; i++) {
                seed = seed * 1103515245 + 12345;
                if ((seed >>> 24) % 12 < wine && tray.guests > 0) {
                    int who = (seed >>> 8) % tray.guests;
                    if (tray.isLeft(who)) {
                        int more = 1 + (seed >>> 16) % 20;
                        tray.regret[who] = Math.min(MOST_REGRET, tray.regret[who] + more);
                    }
                }
                tray.passMinute();
            }
        }
    }

    /** Two who look sorry BY TURNS. */
    private static final class Turns {
        static final int MOST_TIMES = 5, AS_HE_DOES = 2;
        private static final int DIFFERENT_LOOKS = MOST_LOOKS + 1;

        private final Thought thought;
        private int one = 0;
        private int other = 0;
        /** By the LOOKS of both: many turns end alike, and an end is dear to work out. VOID: not yet. */
        private final int[] ends = new int[DIFFERENT_LOOKS * DIFFERENT_LOOKS];

        Turns(Thought thought) {
            this.thought = thought;
        }

        void begin(int theOne, int theOther) {
            one = theOne;
            other = theOther;
            for (int i = 0; i < ends.length; i++) {
                ends[i] = VOID;
            }
        }

        /** By how many MINUTES the one is ahead, if both do their best from here on. */
        private int best(int oneLooks, int otherLooks, int timesMore, boolean isOnesTurn) {
            if (timesMore <= 0) {
                return endOf(oneLooks, otherLooks);
            }
            int ahead = isOnesTurn ? -MOST_GUESTS : MOST_GUESTS;
            for (int way = 0; way <= AS_HE_DOES; way++) {
                if (isOnesTurn) {
                    ahead = Math.max(ahead, best(afterTurn(oneLooks, way), otherLooks, timesMore - 1, false));
                } else {
                    ahead = Math.min(ahead, best(oneLooks, afterTurn(otherLooks, way), timesMore - 1, true));
                }
            }
            return ahead;
        }

        private static int afterTurn(int looks, int way) {
            if (way == AS_HE_DOES) {
                return looks;
            }
            return way == 0 ? Math.min(MOST_LOOKS, looks + 2) : Math.max(0, looks - 2);
        }

        private int endOf(int oneLooks, int otherLooks) {
            int i = oneLooks * DIFFERENT_LOOKS + otherLooks;
            if (i < 0 || i >= ends.length) {
                return 0;
            }
            if (ends[i] == VOID) {
                thought.startBehind(0);
                thought.tray.looks[one] = oneLooks;
                thought.tray.looks[other] = otherLooks;
                thought.allGo(NOBODY);
                ends[i] = thought.placeOfGoer(other) - thought.placeOfGoer(one);
            }
            return ends[i];
        }
    }

    /** AN IMAGE: what deeds change, but for the GUESTS and SLIPS that come. */
    private static final class Image {
        private final int[] regret = new int[MOST_GUESTS];
        private final int[] looks = new int[MOST_GUESTS];
        private final int[] gone = new int[MOST_GUESTS];
        private final int[] ledger = new int[LED_NUMBERS];
        private int guests = 0;
        private int minute = 0;
        boolean isTaken = false;

        void take(Tray tray, int[] led) {
            guests = tray.guests;
            minute = tray.minute;
            System.arraycopy(tray.regret, 0, regret, 0, guests);
            System.arraycopy(tray.looks, 0, looks, 0, guests);
            System.arraycopy(tray.gone, 0, gone, 0, guests);
            System.arraycopy(led, 0, ledger, 0, LED_NUMBERS);
            isTaken = true;
        }

        void layBack(Tray tray, int[] led) {
            tray.minute = minute;
            System.arraycopy(regret, 0, tray.regret, 0, guests);
            System.arraycopy(looks, 0, tray.looks, 0, guests);
            System.arraycopy(gone, 0, tray.gone, 0, guests);
            System.arraycopy(ledger, 0, led, 0, LED_NUMBERS);
        }
    }

    /** CHANGES, the oldest first: those ahead of done may be UNDONE, those from it on DONE AGAIN. */
    private static final class Changes {
        private final int[] numbers = new int[MOST_CHANGES];
        private final int[] whats = new int[MOST_CHANGES];
        private final int[] before = new int[MOST_CHANGES];
        private final int[] behind = new int[MOST_CHANGES];
        private int known = 0;
        int done = 0;

        void add(int number, int what, int was, int v) {
            if (done >= MOST_CHANGES) {
                forgetOldest();
            }
            numbers[done] = number;
            whats[done] = what;
            before[done] = was;
            behind[done] = v;
            done++;
            known = done;
        }

        private void forgetOldest() {
            done = MOST_CHANGES - 1;
            System.arraycopy(numbers, 1, numbers, 0, done);
            System.arraycopy(whats, 1, whats, 0, done);
            System.arraycopy(before, 1, before, 0, done);
            System.arraycopy(behind, 1, behind, 0, done);
        }

        int stepBack(Tray tray) {
            if (done <= 0) {
                return STATE;
            }
            done--;
            tray.setNumber(numbers[done], whats[done], before[done]);
            return done;
        }

        int stepOn(Tray tray) {
            if (done >= known) {
                return STATE;
            }
            tray.setNumber(numbers[done], whats[done], behind[done]);
            done++;
            return known - done;
        }
    }

    /** BODIES, each of a KIND, and the acts that their KIND has or comes by from above. */
    private static final class Hooks {
        static final int HANGS = 0, READS = 1, REGRETS = 2, TELLS = 3, ACTS = 4, KINDS = 8;
        /** More than any act needs: GREY's tells, the deepest, has 6 open at once. */
        private static final int DEEPEST = 20;
        /** The KIND above each; HOOK has a body of every act, so none goes above it. */
        private static final int[] ABOVE = {0, 0, 0, 2, 1, 3, 0, 4};
        /** For each KIND the bodies of hangs, reads, regrets, tells; 0: it has none of its own. */
        private static final int[] OWN = {
            1, 10, 11, 2,
            20, 0, 0, 0,
            0, 30, 0, 0,
            0, 41, 40, 0,
            0, 0, 50, 0,
            0, 0, 0, 60,
            70, 0, 0, 0,
            0, 80, 0, 81,
        };

        final int[] kinds = new int[MOST_BODIES];
        int bodies = 0;
        final int[] traced = new int[MOST_TRACED];
        int ran = 0;

        static boolean isKind(int kind) {
            return kind >= 0 && kind < KINDS;
        }

        boolean hasBody(int n) {
            return n >= 0 && n < bodies;
        }

        int add(int kind) {
            if (bodies >= MOST_BODIES) {
                return FULL;
            }
            kinds[bodies] = kind;
            bodies++;
            return bodies - 1;
        }

        /** Whether a BODY is of a KIND, or of one under it. */
        boolean isOfKind(int n, int kind) {
            if (!hasBody(n)) {
                return false;
            }
            int own = kinds[n];
            for (int i = 0; i < KINDS && own != kind; i++) {
                own = ABOVE[own];
            }
            return own == kind;
        }

        int perform(int n, int act, int x) {
            ran = 0;
            if (!hasBody(n) || act < 0 || act >= ACTS) {
                return 0;
            }
            return own(n, act, x, 0);
        }

        private int own(int n, int act, int x, int depth) {
            return run(n, kinds[n], act, x, depth + 1);
        }

        private int above(int n, int kind, int act, int x, int depth) {
            return run(n, ABOVE[kind], act, x, depth + 1);
        }

        private int run(int n, int from, int act, int x, int depth) {
            if (depth > DEEPEST) {
                return 0;
            }
            int kind = from;
            for (int i = 0; i < KINDS && OWN[kind * ACTS + act] == 0; i++) {
                kind = ABOVE[kind];
            }
            int body = OWN[kind * ACTS + act];
            note(body);
            switch (body) {
                case 1: return x + n;
                case 2: return own(n, READS, x, depth) - own(n, REGRETS, 1, depth);
                case 10: return own(n, HANGS, x, depth) * 2;
                case 11: return x ^ n;
                case 20: return above(n, kind, HANGS, x, depth) + 3;
                case 30: return -above(n, kind, READS, x, depth);
                case 40: return above(n, kind, REGRETS, x, depth) * 3;
                case 41: return above(n, kind, READS, x + 1, depth);
                case 50: return above(n, kind, REGRETS, x, depth) - own(n, HANGS, 2, depth);
                case 60: return above(n, kind, TELLS, x, depth) ^ 5;
                case 70: return above(n, kind, HANGS, x, depth) * 2;
                case 80: return above(n, kind, READS, x, depth) + own(n, REGRETS, 2, depth);
                case 81: return above(n, kind, TELLS, x, depth) - 1;
                default: return 0;
            }
        }

        private void note(int body) {
            if (ran < MOST_TRACED) {
                traced[ran] = body;
            }
            ran++;
        }
    }

    /** A SHELF; the elements are made once, so that a ROW costs nothing anew. */
    private static final class Shelf {
        static final int NOTHING = 0, HOOK = 1, ROW = 2;
        static final int BYTES = 0, SHORTS = 1, INTS = 2, LONGS = 3, BOOLEANS = 4;

        int holds = NOTHING;
        int hook = -1;
        int sort = BYTES;
        int size = 0;
        final long[] elements = new long[MOST_ELEMENTS];

        boolean isRowOf(int ofSort) {
            return holds == ROW && sort == ofSort;
        }

        void holdRow(int ofSort, int n) {
            holds = ROW;
            sort = ofSort;
            size = Math.max(0, Math.min(MOST_ELEMENTS, n));
            for (int i = 0; i < MOST_ELEMENTS; i++) {
                elements[i] = 0;
            }
        }

        boolean hasPlaces(int i, int n) {
            return i >= 0 && n >= 0 && (long) i + n <= size;
        }

        long cut(long v) {
            switch (sort) {
                case BYTES: return (byte) v;
                case SHORTS: return (short) v;
                case INTS: return (int) v;
                case LONGS: return v;
                default: return v != 0 ? 1 : 0;
            }
        }
    }
}
