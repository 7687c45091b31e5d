/**
 * Half a bridge each: a gorge that is crossed on planks, each held by two people who promised it,
 * one from either bank.
 *
 * People and planks are bits of numbers all through: person a is 1 << a, plank p is 1 << p. All rows
 * are made with the object; no call makes a new one.
 */
public final class HalfPlanks {
    public static final int BAD = -1, STATE = -2, FULL = -3, NONE = -9;
    public static final int NO = -1000000;

    private static final int MOST_PEOPLE = 8, MOST_PLANKS = 8, PLANKS_AT_FIRST = 3;
    private static final int MOST_LETTERS = 120, LAST_LETTER = 255;
    private static final int MOST_WORD = 9, MOST_SLOW = 5, MOST_LOAD = 36;
    private static final int LAST_DAY = 999, MOST_CROSSED = 999, MOST_UNDONE = 10;
    private static final int MOST_AHEAD = 20, MOST_WINTER = 60, MOST_SEED = 999999;
    private static final int MOST_SEEN = 6, MOST_TURNS = 3, PARTS = 10, IMAGES = 2;
    private static final int PLAIN = 1, CHILD = 2, SWORN = 3, MERCHANT = 4, LIAR = 5;
    private static final int CHILD_HOLDS = 3;
    private static final int NOBODY = -1;

    private final int[] letters = new int[MOST_LETTERS];
    private int typed = 0;
    private final Folk draft = new Folk();
    private final Folk folk = new Folk();
    private final Reader reader = new Reader(letters, draft);
    private final Strength strength = new Strength(folk);
    private final Promises present = new Promises();
    private final History history = new History();
    private final Promises[] images = new Promises[IMAGES];
    private final boolean[] kept = new boolean[IMAGES];
    private final Planner planner = new Planner(folk, strength, present);
    private final Gambler gambler = new Gambler(folk, strength, present);
    private final Guesser guesser = new Guesser(folk, strength, present);
    private long traced = 0;

    public HalfPlanks() {
        for (int i = 0; i < IMAGES; i++) {
            images[i] = new Promises();
        }
    }

    // ---- the gorge

    public int type(int letter) {
        if (!within(letter, 0, LAST_LETTER)) {
            return BAD;
        }
        if (typed >= MOST_LETTERS) {
            return FULL;
        }
        letters[typed] = letter;
        typed++;
        return typed;
    }

    public int clear() {
        int had = typed;
        typed = 0;
        return had;
    }

    public int gorge() {
        int items = reader.readAll(typed);
        if (items < 0) {
            return items;
        }
        typed = 0;
        folk.become(draft);
        strength.reckonAll();
        present.begin(folk);
        history.lose();
        guesser.seen = 0;
        for (int i = 0; i < IMAGES; i++) {
            kept[i] = false;
        }
        return items;
    }

    public int person(int a, int what) {
        if (!folk.hasPerson(a)) {
            return BAD;
        }
        switch (what) {
            case 0: return folk.bank[a];
            case 1: return folk.kind[a];
            case 2: return folk.word[a];
            case 3: return folk.slow[a];
            case 4: return planksOf(present.came, a);
            case 5: return planksOf(present.under, a);
            case 6: return strength.falling(present, a);
            case 7: return Math.max(0, strength.bridge(present, 0) - strength.bridge(present, 1 << a));
            default: return BAD;
        }
    }

    public int plank(int p, int what) {
        if (!folk.hasPlank(p)) {
            return BAD;
        }
        switch (what) {
            case 0: return strength.of(p, present.came[p]);
            case 1: return strength.standing(p, present.came[p], 0);
            case 2: return strength.standing(p, present.came[p], 1);
            default: return BAD;
        }
    }

    public int hold(int a, int p) {
        if (!folk.hasPerson(a) || !folk.hasPlank(p)) {
            return BAD;
        }
        return folk.holdBy(a, folk.word[a], p, present.came[p]);
    }

    public int now(int what) {
        switch (what) {
            case 0: return present.day;
            case 1: return strength.bridge(present, 0);
            case 2: return strength.lying(present);
            case 3: return present.crossed;
            case 4: return present.lettersUnderWay();
            case 5: return history.known;
            default: return BAD;
        }
    }

    // ---- what is done

    public int promises(int a, int p) {
        if (!folk.hasPerson(a) || !folk.hasPlank(p)) {
            return BAD;
        }
        if (present.gave(a, p)) {
            return STATE;
        }
        history.remember(present);
        return present.post(folk, a, p);
    }

    public int breaks(int a, int p) {
        if (!folk.hasPerson(a) || !folk.hasPlank(p)) {
            return BAD;
        }
        if (!present.gave(a, p)) {
            return STATE;
        }
        history.remember(present);
        present.drop(a, p);
        return strength.bridge(present, 0);
    }

    public int days() {
        if (present.day >= LAST_DAY) {
            return STATE;
        }
        history.remember(present);
        return present.pass();
    }

    public int crosses(int load) {
        if (!isLoad(load)) {
            return BAD;
        }
        if (present.crossed >= MOST_CROSSED || strength.bridge(present, 0) < load) {
            return STATE;
        }
        history.remember(present);
        present.crossed++;
        return present.crossed;
    }

    public int undo() {
        if (history.known <= 0) {
            return STATE;
        }
        history.restore(present);
        return history.known;
    }

    // ---- what comes, what is best

    public int when(int load) {
        return isLoad(load) ? planner.firstBorne(load) : BAD;
    }

    public int fewest(int load, int p) {
        if (!isLoad(load)) {
            return BAD;
        }
        if (p == -1) {
            return planner.moreForAll(load);
        }
        return folk.hasPlank(p) ? planner.moreFor(load, p) : BAD;
    }

    public int soon(int load) {
        return isLoad(load) ? planner.firstPossible(load) : BAD;
    }

    public int pair(int a, int b, int p) {
        if (!folk.hasPerson(a) || !folk.hasPerson(b) || !folk.hasPlank(p)) {
            return BAD;
        }
        if (folk.bank[a] == folk.bank[b] || present.gave(a, p) || present.gave(b, p)
                || present.under[p] != 0) {
            return STATE;
        }
        int one = folk.slow[a];
        int other = folk.slow[b];
        int together = Math.min(Math.max(one, other + 1), Math.max(one + 1, other));
        return Math.min(together, one + other);
    }

    public int enough(int load) {
        return isLoad(load) ? planner.fewestPeople(load) : BAD;
    }

    public int friends(int load) {
        return isLoad(load) ? planner.mostHeld(load) : BAD;
    }

    public int byTurns(int n) {
        return within(n, 0, MOST_TURNS) ? gambler.afterTurns(n) : BAD;
    }

    public int odds(int x, int load, int what) {
        if (!within(x, 0, PARTS) || !isLoad(load) || !within(what, 0, 1)) {
            return BAD;
        }
        int upper = gambler.chancesFor(x, load);
        int lower = power(PARTS, folk.size);
        int divisor = commonDivisor(upper, lower);
        if (divisor <= 0) {
            return BAD;
        }
        return (what == 0 ? upper : lower) / divisor;
    }

    public int winter(int n, int seed, int load) {
        if (!within(n, 0, MOST_WINTER) || !within(seed, 1, MOST_SEED) || !isLoad(load)) {
            return BAD;
        }
        return gambler.daysBorne(n, seed, load);
    }

    // ---- what word one keeps

    public int sees(int load, int over) {
        if (!isLoad(load) || !within(over, 0, 1)) {
            return BAD;
        }
        return guesser.see(load, over == 1) ? guesser.seen : FULL;
    }

    public int forget() {
        int had = guesser.seen;
        guesser.seen = 0;
        return had;
    }

    public int words(int a, int what) {
        if (!folk.hasPerson(a)) {
            return BAD;
        }
        switch (what) {
            case 0: return guesser.gather(a);
            case 1: return guesser.leastWord(a);
            case 2: return guesser.greatestWord(a);
            default: return BAD;
        }
    }

    public int next(int a) {
        return folk.hasPerson(a) ? guesser.bestTry(a) : BAD;
    }

    // ---- kinds, images

    public int rate(int kind, int a) {
        if (!folk.hasPerson(a)) {
            return NO;
        }
        switch (kind) {
            case 0: return rateAsPerson(a);
            case PLAIN: return rateAsPlain(a);
            case CHILD: return rateAsChild(a);
            case SWORN: return rateAsSworn(a);
            case MERCHANT: return rateAsMerchant(a);
            case LIAR: return rateAsLiar(a);
            default: return NO;
        }
    }

    public int keep(int image) {
        if (!within(image, 0, IMAGES - 1)) {
            return BAD;
        }
        images[image].become(present);
        kept[image] = true;
        return present.day;
    }

    public int back(int image) {
        if (!within(image, 0, IMAGES - 1)) {
            return BAD;
        }
        if (!kept[image]) {
            return STATE;
        }
        present.become(images[image]);
        history.lose();
        return present.day;
    }

    public int count(int what) {
        switch (what) {
            case 0: return folk.planks;
            case 1: return folk.size;
            case 2: return guesser.seen;
            case 3: return typed;
            default: return BAD;
        }
    }

    public long trace() {
        return traced;
    }

    private int rateAsPerson(int a) {
        traced += 1;
        return folk.word[a];
    }

    private int rateAsPlain(int a) {
        traced += 10;
        return rateAsPerson(a) + folk.slow[a];
    }

    private int rateAsChild(int a) {
        traced += 100;
        return 2 * rateAsPlain(a);
    }

    private int rateAsSworn(int a) {
        traced += 1000;
        return rateAsPerson(a) + Integer.bitCount(planksOf(present.came, a));
    }

    private int rateAsMerchant(int a) {
        traced += 10000;
        int given = planksOf(present.came, a) | planksOf(present.under, a);
        return rateAsPerson(a) - Integer.bitCount(given);
    }

    private int rateAsLiar(int a) {
        traced += 100000;
        return 3 * rateAsMerchant(a) + a;
    }

    /** Turns a row that has people for each plank into the planks of one of them. */
    private int planksOf(int[] peopleOfPlanks, int a) {
        int planks = 0;
        for (int p = 0; p < folk.planks; p++) {
            if (has(peopleOfPlanks[p], a)) {
                planks |= 1 << p;
            }
        }
        return planks;
    }

    private static boolean within(int number, int least, int most) {
        return number >= least && number <= most;
    }

    private static boolean isLoad(int load) {
        return within(load, 1, MOST_LOAD);
    }

    private static boolean has(int bits, int place) {
        return (bits >> place & 1) != 0;
    }

    private static int power(int base, int exponent) {
        int product = 1;
        for (int i = 0; i < exponent; i++) {
            product *= base;
        }
        return product;
    }

    private static int commonDivisor(int one, int other) {
        int greater = one;
        int rest = other;
        // Euclid's steps for two ints are never more than 46.
        for (int i = 0; i < 64 && rest != 0; i++) {
            int left = greater % rest;
            greater = rest;
            rest = left;
        }
        return greater;
    }

    /** What a text tells: how many planks, who there is, which promises came from the start. */
    private static final class Folk {
        int planks = PLANKS_AT_FIRST;
        int size = 0;
        int sworn = 0;
        final int[] bank = new int[MOST_PEOPLE];
        final int[] kind = new int[MOST_PEOPLE];
        final int[] word = new int[MOST_PEOPLE];
        final int[] slow = new int[MOST_PEOPLE];
        final int[] told = new int[MOST_PLANKS];

        void leave() {
            planks = PLANKS_AT_FIRST;
            size = 0;
            sworn = 0;
            for (int p = 0; p < MOST_PLANKS; p++) {
                told[p] = 0;
            }
        }

        void become(Folk other) {
            planks = other.planks;
            size = other.size;
            sworn = other.sworn;
            System.arraycopy(other.bank, 0, bank, 0, MOST_PEOPLE);
            System.arraycopy(other.kind, 0, kind, 0, MOST_PEOPLE);
            System.arraycopy(other.word, 0, word, 0, MOST_PEOPLE);
            System.arraycopy(other.slow, 0, slow, 0, MOST_PEOPLE);
            System.arraycopy(other.told, 0, told, 0, MOST_PLANKS);
        }

        void join(int itsBank, int itsKind, int itsWord, int itsSlow) {
            if (size >= MOST_PEOPLE) {
                return;
            }
            bank[size] = itsBank;
            kind[size] = itsKind;
            word[size] = itsWord;
            slow[size] = itsSlow;
            if (itsKind == SWORN) {
                sworn |= 1 << size;
            }
            size++;
        }

        boolean hasPerson(int a) {
            return a >= 0 && a < size;
        }

        boolean hasPlank(int p) {
            return p >= 0 && p < planks;
        }

        int everyone() {
            return (1 << size) - 1;
        }

        /** What a holds of plank p with that word, when the promises of those who came are there. */
        int holdBy(int a, int itsWord, int p, int came) {
            switch (kind[a]) {
                case CHILD: return Math.min(itsWord, CHILD_HOLDS);
                case MERCHANT: return (p & 1) == 1 ? 2 * itsWord : itsWord;
                case LIAR: return (came & sworn) != 0 ? 0 : 2 * itsWord;
                default: return itsWord;
            }
        }
    }

    /** Reads the letters, token by token, into a draft, so that a fault changes nothing. */
    private static final class Reader {
        private static final int END = -1, NUMBER = -2, WRONG = -3;
        private static final int FAULTS_FROM = -10;

        final int[] letters;
        final Folk draft;
        int length = 0;
        int at = 0;
        int place = 0;
        int token = END;
        int value = 0;

        Reader(int[] letters, Folk draft) {
            this.letters = letters;
            this.draft = draft;
        }

        /** How many items there are, or -10 less the fault. */
        int readAll(int lettersTyped) {
            length = Math.min(lettersTyped, letters.length);
            at = 0;
            draft.leave();
            for (int items = 0; items <= length; items++) {
                advance();
                if (token == END) {
                    return items;
                }
                if (!readItem(items)) {
                    return FAULTS_FROM - place;
                }
            }
            return FAULTS_FROM - length;
        }

        boolean readItem(int itemsAhead) {
            switch (token) {
                case 'n': return itemsAhead == 0 && readPlanks() && readEnd();
                case 'u': return readPerson(0) && readEnd();
                case 'v': return readPerson(1) && readEnd();
                case 'x': return readPromise() && readEnd();
                default: return false;
            }
        }

        boolean readPlanks() {
            if (!readNumber(1, MOST_PLANKS)) {
                return false;
            }
            draft.planks = value;
            return true;
        }

        boolean readPerson(int bank) {
            if (draft.size >= MOST_PEOPLE) {
                return false;
            }
            advance();
            int kind = token < 0 ? 0 : "pcsml".indexOf((char) token) + 1;
            if (kind == 0 || !readNumber(1, MOST_WORD)) {
                return false;
            }
            int word = value;
            if (!readNumber(1, MOST_SLOW)) {
                return false;
            }
            draft.join(bank, kind, word, value);
            return true;
        }

        boolean readPromise() {
            if (!readNumber(0, draft.size - 1)) {
                return false;
            }
            int a = value;
            if (!readNumber(0, draft.planks - 1) || has(draft.told[value], a)) {
                return false;
            }
            draft.told[value] |= 1 << a;
            return true;
        }

        boolean readNumber(int least, int most) {
            advance();
            return token == NUMBER && within(value, least, most);
        }

        boolean readEnd() {
            advance();
            return token == ';';
        }

        /** Goes on to the next token; its place is the text's length if there is none. */
        void advance() {
            while (at < length && letters[at] == ' ') {
                at++;
            }
            place = at;
            if (at >= length) {
                token = END;
                return;
            }
            int letter = letters[at];
            if (letter >= '0' && letter <= '9') {
                takeNumber();
                return;
            }
            at++;
            token = "nuvxpcsml;".indexOf((char) letter) >= 0 ? letter : WRONG;
        }

        void takeNumber() {
            value = 0;
            while (at < length && letters[at] >= '0' && letters[at] <= '9') {
                // 100 stands for all that is above 99, however long it is.
                value = value < 10 ? value * 10 + letters[at] - '0' : 100;
                at++;
            }
            boolean zeroAhead = at - place > 1 && letters[place] == '0';
            token = value > 99 || zeroAhead ? WRONG : NUMBER;
        }
    }

    /** The day, the promises for each plank, what crossed: what can be undone and kept. */
    private static final class Promises {
        int day = 0;
        int crossed = 0;
        final int[] came = new int[MOST_PLANKS];
        final int[] under = new int[MOST_PLANKS];
        final int[] due = new int[MOST_PLANKS * MOST_PEOPLE];

        void begin(Folk folk) {
            day = 0;
            crossed = 0;
            for (int p = 0; p < MOST_PLANKS; p++) {
                came[p] = folk.told[p];
                under[p] = 0;
            }
        }

        void become(Promises other) {
            day = other.day;
            crossed = other.crossed;
            System.arraycopy(other.came, 0, came, 0, MOST_PLANKS);
            System.arraycopy(other.under, 0, under, 0, MOST_PLANKS);
            System.arraycopy(other.due, 0, due, 0, MOST_PLANKS * MOST_PEOPLE);
        }

        boolean gave(int a, int p) {
            return has(came[p] | under[p], a);
        }

        /** Posts the promise: the day on which it comes. */
        int post(Folk folk, int a, int p) {
            int comes = day + folk.slow[a] + (meetsAnother(folk, a, p) ? 1 : 0);
            under[p] |= 1 << a;
            due[p * MOST_PEOPLE + a] = comes;
            return comes;
        }

        boolean meetsAnother(Folk folk, int a, int p) {
            for (int b = 0; b < folk.size; b++) {
                if (has(under[p], b) && folk.bank[b] != folk.bank[a]) {
                    return true;
                }
            }
            return false;
        }

        void drop(int a, int p) {
            came[p] &= ~(1 << a);
            under[p] &= ~(1 << a);
        }

        /** Lets a day go by: how many promises come. */
        int pass() {
            day++;
            int arrived = 0;
            for (int p = 0; p < MOST_PLANKS; p++) {
                int there = cameBy(p, day);
                arrived += Integer.bitCount(there & ~came[p]);
                came[p] = there;
                under[p] &= ~there;
            }
            return arrived;
        }

        /** Whose promises for plank p will have come on that day. */
        int cameBy(int p, int thatDay) {
            int there = came[p];
            if (under[p] == 0) {
                return there;
            }
            for (int a = 0; a < MOST_PEOPLE; a++) {
                if (has(under[p], a) && due[p * MOST_PEOPLE + a] <= thatDay) {
                    there |= 1 << a;
                }
            }
            return there;
        }

        int lettersUnderWay() {
            int number = 0;
            for (int p = 0; p < MOST_PLANKS; p++) {
                number += Integer.bitCount(under[p]);
            }
            return number;
        }
    }

    /** The latest states, in a ring: the oldest gives way. */
    private static final class History {
        final Promises[] ring = new Promises[MOST_UNDONE];
        int known = 0;
        int top = 0;

        History() {
            for (int i = 0; i < MOST_UNDONE; i++) {
                ring[i] = new Promises();
            }
        }

        void lose() {
            known = 0;
        }

        void remember(Promises state) {
            ring[top].become(state);
            top = top + 1 < MOST_UNDONE ? top + 1 : 0;
            known = Math.min(known + 1, MOST_UNDONE);
        }

        void restore(Promises state) {
            if (known <= 0) {
                return;
            }
            top = top > 0 ? top - 1 : MOST_UNDONE - 1;
            state.become(ring[top]);
            known--;
        }
    }

    /**
     * What a plank bears by those whose promises came. Only whether its number is uneven tells one
     * plank from another, so there are two rows, of all sets of people, reckoned once for a text.
     */
    private static final class Strength {
        private static final int SETS = 1 << MOST_PEOPLE;

        final Folk folk;
        final int[] borne = new int[2 * SETS];

        Strength(Folk folk) {
            this.folk = folk;
        }

        void reckonAll() {
            for (int set = 0; set <= folk.everyone(); set++) {
                borne[set] = bestOfTwo(0, set, NOBODY, 0);
                borne[SETS + set] = bestOfTwo(1, set, NOBODY, 0);
            }
        }

        int of(int p, int came) {
            return borne[(p & 1) * SETS + (came & SETS - 1)];
        }

        /** What plank p bears by a set of people, if one of them had another word. */
        int bestOfTwo(int p, int came, int who, int whoseWord) {
            int left = 0;
            int right = 0;
            int sworn = 0;
            int secondSworn = 0;
            for (int a = 0; a < folk.size; a++) {
                if (!has(came, a)) {
                    continue;
                }
                int held = folk.holdBy(a, a == who ? whoseWord : folk.word[a], p, came);
                if (folk.kind[a] == SWORN) {
                    secondSworn = Math.max(secondSworn, Math.min(sworn, held));
                    sworn = Math.max(sworn, held);
                } else if (folk.bank[a] == 0) {
                    left = Math.max(left, held);
                } else {
                    right = Math.max(right, held);
                }
            }
            int best = Math.max(together(left, right), together(sworn, secondSworn));
            return Math.max(best, together(sworn, Math.max(left, right)));
        }

        /** 0 is nobody who stands: then there are no two. */
        static int together(int one, int other) {
            return one > 0 && other > 0 ? one + other : 0;
        }

        /** What the bridge bears, with all promises of some people broken. */
        int bridge(Promises state, int gone) {
            int least = of(0, state.came[0] & ~gone);
            for (int p = 1; p < folk.planks && least > 0; p++) {
                least = Math.min(least, of(p, state.came[p] & ~gone));
            }
            return least;
        }

        int lying(Promises state) {
            int planks = 0;
            for (int p = 0; p < folk.planks; p++) {
                if (of(p, state.came[p]) > 0) {
                    planks |= 1 << p;
                }
            }
            return planks;
        }

        int falling(Promises state, int a) {
            int planks = 0;
            for (int p = 0; p < folk.planks; p++) {
                if (of(p, state.came[p]) > 0 && of(p, state.came[p] & ~(1 << a)) == 0) {
                    planks |= 1 << p;
                }
            }
            return planks;
        }

        int standing(int p, int came, int bank) {
            int people = 0;
            for (int a = 0; a < folk.size; a++) {
                boolean ofBank = folk.bank[a] == bank || folk.kind[a] == SWORN;
                if (has(came, a) && ofBank && folk.holdBy(a, folk.word[a], p, came) > 0) {
                    people |= 1 << a;
                }
            }
            return people;
        }
    }

    /** When a load can go over, and by whom. */
    private static final class Planner {
        final Folk folk;
        final Strength strength;
        final Promises present;

        Planner(Folk folk, Strength strength, Promises present) {
            this.folk = folk;
            this.strength = strength;
            this.present = present;
        }

        int firstBorne(int load) {
            for (int ahead = 0; ahead <= MOST_AHEAD; ahead++) {
                if (bearsBehind(ahead, load)) {
                    return ahead;
                }
            }
            return NONE;
        }

        boolean bearsBehind(int ahead, int load) {
            for (int p = 0; p < folk.planks; p++) {
                if (strength.of(p, present.cameBy(p, present.day + ahead)) < load) {
                    return false;
                }
            }
            return true;
        }

        int moreForAll(int load) {
            int sum = 0;
            for (int p = 0; p < folk.planks; p++) {
                int more = moreFor(load, p);
                if (more == NONE) {
                    return NONE;
                }
                sum += more;
            }
            return sum;
        }

        int moreFor(int load, int p) {
            int given = present.came[p] | present.under[p];
            return fewestAdded(load, p, given, folk.everyone() & ~given);
        }

        /** How many of those who may (0 .. 2) must come to those who came, for plank p to bear it. */
        int fewestAdded(int load, int p, int came, int may) {
            if (strength.of(p, came) >= load) {
                return 0;
            }
            int found = NONE;
            for (int a = 0; a < folk.size; a++) {
                if (!has(may, a)) {
                    continue;
                }
                int withOne = came | 1 << a;
                if (strength.of(p, withOne) >= load) {
                    return 1;
                }
                for (int b = a + 1; b < folk.size && found == NONE; b++) {
                    if (has(may, b) && strength.of(p, withOne | 1 << b) >= load) {
                        found = 2;
                    }
                }
            }
            return found;
        }

        int firstPossible(int load) {
            for (int ahead = 0; ahead <= MOST_AHEAD; ahead++) {
                if (possibleBehind(ahead, load)) {
                    return ahead;
                }
            }
            return NONE;
        }

        boolean possibleBehind(int ahead, int load) {
            int quick = quickEnough(ahead);
            for (int p = 0; p < folk.planks; p++) {
                int came = present.cameBy(p, present.day + ahead);
                int may = quick & ~(present.came[p] | present.under[p]);
                if (fewestAdded(load, p, came, may) == NONE) {
                    return false;
                }
            }
            return true;
        }

        /** Whose letters, posted now, are there by then; later ones can't help. */
        int quickEnough(int ahead) {
            int people = 0;
            for (int a = 0; a < folk.size; a++) {
                if (folk.slow[a] <= ahead) {
                    people |= 1 << a;
                }
            }
            return people;
        }

        int fewestPeople(int load) {
            int best = NONE;
            int fewest = MOST_PEOPLE + 1;
            for (int set = 1; set <= folk.everyone(); set++) {
                if (Integer.bitCount(set) < fewest && bearsAll(set, load)) {
                    best = set;
                    fewest = Integer.bitCount(set);
                }
            }
            return best;
        }

        boolean bearsAll(int set, int load) {
            for (int p = 0; p < folk.planks; p++) {
                if (strength.of(p, set) < load) {
                    return false;
                }
            }
            return true;
        }

        int mostHeld(int load) {
            int uneven = folk.planks / 2;
            return mostPairs(strength, load, 0, folk.everyone(), folk.planks - uneven, uneven);
        }

        /**
         * On how many of so many planks of even and uneven number those who are free can be, two on
         * each; all ahead of a are settled already, so a, which is below 8, is the depth as well.
         */
        private static int mostPairs(Strength strength, int load, int a, int free, int even, int uneven) {
            int bound = Math.min(Integer.bitCount(free) / 2, even + uneven);
            if (a >= MOST_PEOPLE || bound <= 0) {
                return 0;
            }
            if (!has(free, a)) {
                return mostPairs(strength, load, a + 1, free, even, uneven);
            }
            int others = free & ~(1 << a);
            int best = 0;
            for (int b = a + 1; b < MOST_PEOPLE && best < bound; b++) {
                if (!has(others, b)) {
                    continue;
                }
                int two = 1 << a | 1 << b;
                int left = others & ~two;
                if (even > 0 && strength.of(0, two) >= load) {
                    best = Math.max(best, 1 + mostPairs(strength, load, a + 1, left, even - 1, uneven));
                }
                if (uneven > 0 && strength.of(1, two) >= load) {
                    best = Math.max(best, 1 + mostPairs(strength, load, a + 1, left, even, uneven - 1));
                }
            }
            if (best < bound) {
                best = Math.max(best, mostPairs(strength, load, a + 1, others, even, uneven));
            }
            return best;
        }
    }

    /** Words broken: by turns, by odds, by the lots of a winter. */
    private static final class Gambler {
        private static final long LOT_FACTOR = 16807, LOT_MODULUS = 2147483647;
        private static final int LOT_CUT = 8;

        final Folk folk;
        final Strength strength;
        final Promises present;
        final Promises trial = new Promises();

        Gambler(Folk folk, Strength strength, Promises present) {
            this.folk = folk;
            this.strength = strength;
            this.present = present;
        }

        /** What the bridge bears when so many turns are taken, the first by the one who breaks. */
        int afterTurns(int turns) {
            if (turns <= 0 || folk.size == 0) {
                return strength.bridge(present, 0);
            }
            int least = MOST_LOAD;
            for (int a = 0; a < folk.size && least > 0; a++) {
                trial.become(present);
                breakAll(a);
                least = Math.min(least, mended(turns - 1));
            }
            return least;
        }

        void breakAll(int a) {
            for (int p = 0; p < folk.planks; p++) {
                trial.drop(a, p);
            }
        }

        /** What the trial's bridge bears when so many turns are left, the first by the one who mends. */
        int mended(int turns) {
            if (turns <= 0) {
                return strength.bridge(trial, 0);
            }
            int most = brokenLast(turns - 1, 0);
            for (int p = 0; p < folk.planks; p++) {
                int before = trial.came[p];
                for (int b = 0; b < folk.size; b++) {
                    if (!has(before, b)) {
                        trial.came[p] = before | 1 << b;
                        most = Math.max(most, brokenLast(turns - 1, most));
                    }
                }
                trial.came[p] = before;
            }
            return most;
        }

        /**
         * The same when one turn at most is left, of the one who breaks. Below the floor, which the
         * one who mends has already, it need not be the least.
         */
        int brokenLast(int turns, int floor) {
            if (turns <= 0) {
                return strength.bridge(trial, 0);
            }
            int least = MOST_LOAD;
            for (int c = 0; c < folk.size && least > floor; c++) {
                least = Math.min(least, strength.bridge(trial, 1 << c));
            }
            return least;
        }

        /** Of 10 to the power of how many people there are, in how many cases the bridge bears it. */
        int chancesFor(int x, int load) {
            int sum = 0;
            for (int gone = 0; gone <= folk.everyone(); gone++) {
                if (strength.bridge(present, gone) >= load) {
                    int broken = Integer.bitCount(gone);
                    sum += power(x, broken) * power(PARTS - x, folk.size - broken);
                }
            }
            return sum;
        }

        int daysBorne(int days, int seed, int load) {
            trial.become(present);
            long lot = seed;
            int borne = 0;
            for (int i = 0; i < days; i++) {
                lot = lot * LOT_FACTOR % LOT_MODULUS;
                turnOne(lot);
                trial.pass();
                if (strength.bridge(trial, 0) >= load) {
                    borne++;
                }
            }
            return borne;
        }

        void turnOne(long lot) {
            if (folk.size <= 0 || folk.planks <= 0) {
                return;
            }
            int a = (int) (lot % folk.size);
            int p = (int) (lot / LOT_CUT % folk.planks);
            if (trial.gave(a, p)) {
                trial.drop(a, p);
            } else {
                trial.post(folk, a, p);
            }
        }
    }

    /** What was seen to go over, and which words of one that leaves. */
    private static final class Guesser {
        final Folk folk;
        final Strength strength;
        final Promises present;
        final int[] load = new int[MOST_SEEN];
        final boolean[] over = new boolean[MOST_SEEN];
        int seen = 0;
        /** What the bridge bears by each word that is left, the least word first. */
        final int[] borne = new int[MOST_WORD];
        int least = NONE;
        int greatest = NONE;

        Guesser(Folk folk, Strength strength, Promises present) {
            this.folk = folk;
            this.strength = strength;
            this.present = present;
        }

        boolean see(int itsLoad, boolean gotOver) {
            if (seen >= MOST_SEEN) {
                return false;
            }
            load[seen] = itsLoad;
            over[seen] = gotOver;
            seen++;
            return true;
        }

        /** Gathers the words of a that agree with all that was seen: how many. */
        int gather(int a) {
            int number = 0;
            least = NONE;
            greatest = NONE;
            for (int word = 1; word <= MOST_WORD; word++) {
                int bears = bridgeWith(a, word);
                if (agrees(bears)) {
                    borne[number] = bears;
                    number++;
                    least = least == NONE ? word : least;
                    greatest = word;
                }
            }
            return number;
        }

        int leastWord(int a) {
            gather(a);
            return least;
        }

        int greatestWord(int a) {
            gather(a);
            return greatest;
        }

        int bridgeWith(int a, int word) {
            int bears = MOST_LOAD;
            for (int p = 0; p < folk.planks; p++) {
                bears = Math.min(bears, strength.bestOfTwo(p, present.came[p], a, word));
            }
            return bears;
        }

        boolean agrees(int bears) {
            for (int i = 0; i < seen; i++) {
                if ((bears >= load[i]) != over[i]) {
                    return false;
                }
            }
            return true;
        }

        int bestTry(int a) {
            int number = gather(a);
            if (number <= 1) {
                return NONE;
            }
            int best = NONE;
            int smallest = MOST_WORD + 1;
            for (int tried = 1; tried <= MOST_LOAD; tried++) {
                int bearing = howManyBear(tried, number);
                int greaterPart = Math.max(bearing, number - bearing);
                if (greaterPart < smallest) {
                    smallest = greaterPart;
                    best = tried;
                }
            }
            return best;
        }

        int howManyBear(int tried, int number) {
            int bearing = 0;
            for (int i = 0; i < number; i++) {
                if (borne[i] >= tried) {
                    bearing++;
                }
            }
            return bearing;
        }
    }
}
