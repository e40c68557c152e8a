import java.util.Arrays;

/**
 * Clerks who take down one trial in shorthand, each with his habits.
 *
 * What each call answers stands in the document, promise by promise. Three ways of holding things run
 * through the whole class: a row of words is one int (see Row), a habit or a copied clerk is 0 for none
 * and else the word or the clerk and 1 (as the document's figures tell it), and all that acts can change
 * is one long (see stateNow). So no call makes an object, and going back is putting a number back.
 */
public final class ShorthandCourt {
    public static final int UNKNOWN = -1, OUTSIDE = -2, STATE = -3, FULL = -4, NONE = -9;

    private static final int WORDS = 4;
    private static final int MOST_WORDS = 6;
    private static final int LONGEST_GONE_THROUGH = 5;
    private static final int MOST_CLERKS = 4;
    private static final int MOST_LETTERS = 32;
    private static final int MOST_ACTS = 16;
    private static final int SLOTS = 2;
    private static final int TENTHS = 10;
    private static final int MOST_DAYS = 30;

    /** Ways to tell a word or none; and ways to tire. */
    private static final int WORD_OR_NONE = WORDS + 1;
    private static final int WAYS_TO_TIRE = 10;
    private static final int HABITS_TO_TRY = WORD_OR_NONE * WORD_OR_NONE * WORD_OR_NONE * WAYS_TO_TIRE;

    /** Stands where a row stands, but is none: the empty row is 1. */
    private static final int UNTOLD = 0;
    /** Stands where a state stands, but is none: a state holds a row. */
    private static final long NOT_KEPT = 0L;

    private static final long SEED_TIMES = 6364136223846793005L;
    private static final long SEED_AND = 1442695040888963407L;

    private final CourtText text;
    private final Bench bench;
    private final ActRow acts;
    private final Drawers drawers;
    private final int[] told;
    private final int[] pagesOfTrial;
    private final long[] kept;
    private int spoken;
    private long nowSeed;

    public ShorthandCourt() {
        text = new CourtText();
        bench = new Bench();
        acts = new ActRow();
        drawers = new Drawers();
        told = new int[MOST_CLERKS];
        pagesOfTrial = new int[MOST_CLERKS];
        kept = new long[SLOTS];
        spoken = Row.EMPTY;
        nowSeed = 0L;
    }

    // ---- the court

    public int write(int letter) {
        if (letter < 0 || letter > 255) {
            return OUTSIDE;
        }
        if (text.size >= MOST_LETTERS) {
            return FULL;
        }
        text.add(letter);
        return text.size;
    }

    public int wipe() {
        int before = text.size;
        text.size = 0;
        return before;
    }

    public int fault() {
        return text.firstFault();
    }

    public int court() {
        if (text.firstFault() != NONE) {
            return STATE;
        }
        bench.readFrom(text);
        spoken = Row.EMPTY;
        acts.size = 0;
        Arrays.fill(told, UNTOLD);
        Arrays.fill(kept, NOT_KEPT);
        return bench.size;
    }

    public int clerk(int clerk, int what) {
        if (!bench.has(clerk)) {
            return UNKNOWN;
        }
        switch (what) {
            case 0:
                return lessOneOrNone(bench.drops[clerk]);
            case 1:
                return lessOneOrNone(bench.from[clerk]);
            case 2:
                return lessOneOrNone(bench.to[clerk]);
            case 3:
                return bench.tires[clerk];
            case 4:
                return lessOneOrNone(bench.copies[clerk]);
            case 5:
                return Row.wordsIn(pageNow(clerk));
            case 6:
                return wordsTold(clerk);
            default:
                return OUTSIDE;
        }
    }

    public int page(int clerk, int place) {
        if (!bench.has(clerk)) {
            return UNKNOWN;
        }
        return Row.wordOrNone(pageNow(clerk), place);
    }

    public int trial(int place) {
        return Row.wordOrNone(spoken, place);
    }

    // ---- acts

    public int speak(int word) {
        if (!isWord(word)) {
            return OUTSIDE;
        }
        if (Row.wordsIn(spoken) >= MOST_WORDS) {
            return FULL;
        }
        acts.remember(stateNow());
        spoken = Row.with(spoken, word);
        return Row.wordsIn(spoken);
    }

    public int strike() {
        if (spoken == Row.EMPTY) {
            return STATE;
        }
        acts.remember(stateNow());
        int word = Row.lastWord(spoken);
        spoken = Row.withoutLast(spoken);
        return word;
    }

    public int reform(int clerk) {
        if (!bench.has(clerk)) {
            return UNKNOWN;
        }
        int before = bench.from[clerk];
        if (before == 0) {
            return STATE;
        }
        acts.remember(stateNow());
        bench.from[clerk] = 0;
        bench.to[clerk] = 0;
        return lessOneOrNone(before);
    }

    public int seat(int clerk, int other) {
        if (!bench.has(clerk)) {
            return UNKNOWN;
        }
        if (other != NONE && (other < 0 || other >= clerk)) {
            return OUTSIDE;
        }
        int before = bench.copies[clerk];
        if (lessOneOrNone(before) == other) {
            return STATE;
        }
        acts.remember(stateNow());
        bench.copies[clerk] = other == NONE ? 0 : other + 1;
        return lessOneOrNone(before);
    }

    public int undo() {
        if (acts.size == 0) {
            return STATE;
        }
        goBackTo(acts.takeLast());
        return acts.size;
    }

    // ---- told pages

    public int open(int clerk) {
        if (!bench.has(clerk)) {
            return UNKNOWN;
        }
        int before = wordsTold(clerk);
        told[clerk] = Row.EMPTY;
        return before;
    }

    public int tell(int clerk, int word) {
        if (!bench.has(clerk)) {
            return UNKNOWN;
        }
        if (!isWord(word)) {
            return OUTSIDE;
        }
        if (told[clerk] == UNTOLD) {
            return STATE;
        }
        if (Row.wordsIn(told[clerk]) >= MOST_WORDS) {
            return FULL;
        }
        told[clerk] = Row.with(told[clerk], word);
        return Row.wordsIn(told[clerk]);
    }

    public int untell(int clerk) {
        if (!bench.has(clerk)) {
            return UNKNOWN;
        }
        int before = wordsTold(clerk);
        told[clerk] = UNTOLD;
        return before;
    }

    public int fits(int n) {
        if (!isLength(n, 0)) {
            return OUTSIDE;
        }
        int found = 0;
        int end = Row.endOf(n);
        for (int row = Row.firstOf(n); row < end; row++) {
            if (isAsTold(row)) {
                found++;
            }
        }
        return found;
    }

    public int least(int n) {
        if (!isLength(n, 0)) {
            return OUTSIDE;
        }
        int end = Row.endOf(n);
        for (int row = Row.firstOf(n); row < end; row++) {
            if (isAsTold(row)) {
                return Row.asFigures(row);
            }
        }
        return NONE;
    }

    public int sure(int n, int place) {
        if (!isLength(n, 1) || place < 0 || place >= n) {
            return OUTSIDE;
        }
        int found = NONE;
        int end = Row.endOf(n);
        for (int row = Row.firstOf(n); row < end; row++) {
            if (isAsTold(row)) {
                int word = Row.wordOrNone(row, place);
                if (found != NONE && found != word) {
                    return NONE;
                }
                found = word;
            }
        }
        return found;
    }

    public int likely(int n, int place, int word, boolean upper) {
        if (!isLength(n, 1) || place < 0 || place >= n || !isWord(word)) {
            return OUTSIDE;
        }
        int all = 0;
        int such = 0;
        int end = Row.endOf(n);
        for (int row = Row.firstOf(n); row < end; row++) {
            if (isAsTold(row)) {
                all++;
                if (Row.wordOrNone(row, place) == word) {
                    such++;
                }
            }
        }
        return all == 0 ? STATE : partOfFraction(such, all, upper);
    }

    public int toRead(int n) {
        if (!isLength(n, 0)) {
            return OUTSIDE;
        }
        int found = NONE;
        int fewestAlike = 0;
        for (int clerk = 0; clerk < bench.size; clerk++) {
            int alike = told[clerk] == UNTOLD ? mostAlike(n, clerk) : 0;
            if (alike > 0 && (found == NONE || alike < fewestAlike)) {
                found = clerk;
                fewestAlike = alike;
            }
        }
        return found;
    }

    public int habits(int clerk) {
        if (!bench.has(clerk)) {
            return UNKNOWN;
        }
        if (told[clerk] == UNTOLD) {
            return STATE;
        }
        int found = 0;
        for (int habit = 0; habit < HABITS_TO_TRY; habit++) {
            if (habitGives(habit, told[clerk])) {
                found++;
            }
        }
        return found;
    }

    public int habit(int clerk) {
        if (!bench.has(clerk)) {
            return UNKNOWN;
        }
        if (told[clerk] == UNTOLD) {
            return STATE;
        }
        for (int habit = 0; habit < HABITS_TO_TRY; habit++) {
            if (habitGives(habit, told[clerk])) {
                return 1000 * dropsOf(habit) + 100 * fromOf(habit) + 10 * toOf(habit) + tiresOf(habit);
            }
        }
        return NONE;
    }

    public int copied(int clerk) {
        if (!bench.has(clerk)) {
            return UNKNOWN;
        }
        if (told[clerk] == UNTOLD) {
            return STATE;
        }
        bench.takeDown(spoken);
        int bits = bench.pageFrom(clerk, spoken) == told[clerk] ? 1 << MOST_CLERKS : 0;
        for (int other = 0; other < bench.size; other++) {
            if (!bench.hangsOn(other, clerk) && bench.pageFrom(clerk, bench.pages[other]) == told[clerk]) {
                bits |= 1 << other;
            }
        }
        return bits;
    }

    public int leaves(int clerk) {
        if (!bench.has(clerk)) {
            return UNKNOWN;
        }
        if (told[clerk] == UNTOLD) {
            return NONE;
        }
        return ordersThatGive(told[clerk], pageNow(clerk), Row.EMPTY, 0);
    }

    // ---- apart

    public int fewest(int n) {
        if (!isLength(n, 0)) {
            return OUTSIDE;
        }
        int everybody = bench.everybody();
        for (int size = 0; size <= MOST_CLERKS; size++) {
            for (int set = 0; set <= everybody; set++) {
                if (Integer.bitCount(set) == size && tellsAllApart(set, n)) {
                    return set;
                }
            }
        }
        return NONE;
    }

    public int blind(int n) {
        if (!isLength(n, 0)) {
            return OUTSIDE;
        }
        return blindness(n);
    }

    public int whom(int n) {
        if (!isLength(n, 0)) {
            return OUTSIDE;
        }
        int found = NONE;
        int leastBlind = blindness(n);
        for (int clerk = 0; clerk < bench.size; clerk++) {
            // One who writes nothing for another word can't be reformed to any gain.
            int blindThen = bench.from[clerk] == 0 ? leastBlind : blindnessReformed(n, clerk);
            if (blindThen < leastBlind) {
                found = clerk;
                leastBlind = blindThen;
            }
        }
        return found;
    }

    public int lost(int x, boolean upper) {
        if (x < 0 || x > TENTHS) {
            return OUTSIDE;
        }
        if (Row.wordsIn(spoken) > LONGEST_GONE_THROUGH) {
            return STATE;
        }
        int unlike = setsUnlikeTrial();
        int everybody = bench.everybody();
        int chance = 0;
        for (int left = 0; left <= everybody; left++) {
            if (tellsTrial(left, unlike)) {
                int stay = Integer.bitCount(left);
                chance += power(TENTHS - x, stay) * power(x, bench.size - stay);
            }
        }
        return partOfFraction(chance, power(TENTHS, bench.size), upper);
    }

    public long seed(long v) {
        long before = nowSeed;
        nowSeed = v;
        return before;
    }

    public int days(int m, int n) {
        if (m < 1 || m > MOST_DAYS || n < 1 || n > MOST_WORDS) {
            return OUTSIDE;
        }
        int words = 0;
        for (int day = 0; day < m; day++) {
            bench.takeDown(trialBySeed(n));
            words += bench.wordsOnPages();
        }
        return words;
    }

    // ---- slots

    public int keep(int slot) {
        if (slot < 0 || slot >= SLOTS) {
            return UNKNOWN;
        }
        kept[slot] = stateNow();
        return Row.wordsIn(spoken);
    }

    public int again(int slot) {
        if (slot < 0 || slot >= SLOTS) {
            return UNKNOWN;
        }
        if (kept[slot] == NOT_KEPT) {
            return STATE;
        }
        goBackTo(kept[slot]);
        acts.size = 0;
        return Row.wordsIn(spoken);
    }

    public int count(int what) {
        switch (what) {
            case 0:
                return text.size;
            case 1:
                return bench.size;
            case 2:
                return Row.wordsIn(spoken);
            case 3:
                return acts.size;
            case 4:
                return setOfTold();
            case 5:
                bench.takeDown(spoken);
                return bench.wordsOnPages();
            default:
                return OUTSIDE;
        }
    }

    // ---- what several calls need

    private static boolean isWord(int word) {
        return word >= 0 && word < WORDS;
    }

    private static boolean isLength(int n, int shortest) {
        return n >= shortest && n <= LONGEST_GONE_THROUGH;
    }

    private static int lessOneOrNone(int habit) {
        return habit == 0 ? NONE : habit - 1;
    }

    private int pageNow(int clerk) {
        bench.takeDown(spoken);
        return bench.pages[clerk];
    }

    private int wordsTold(int clerk) {
        return told[clerk] == UNTOLD ? NONE : Row.wordsIn(told[clerk]);
    }

    private int setOfTold() {
        int set = 0;
        for (int clerk = 0; clerk < bench.size; clerk++) {
            if (told[clerk] != UNTOLD) {
                set |= 1 << clerk;
            }
        }
        return set;
    }

    /** The trial stands above the clerks' habits, so that no state is NOT_KEPT. */
    private long stateNow() {
        return ((long) spoken << Bench.HABIT_BITS) | bench.habitsNow();
    }

    private void goBackTo(long state) {
        spoken = (int) (state >>> Bench.HABIT_BITS);
        bench.putBack(state);
    }

    private static int power(int base, int exponent) {
        int product = 1;
        for (int i = 0; i < exponent; i++) {
            product *= base;
        }
        return product;
    }

    private static int partOfFraction(int above, int below, boolean upper) {
        int divisor = Math.max(1, commonDivisor(above, below));
        return (upper ? above : below) / divisor;
    }

    private static int commonDivisor(int a, int b) {
        int divisor = a;
        int rest = b;
        // Two ints need fewer than 64 steps of Euclid's way.
        for (int step = 0; step < 64 && rest != 0; step++) {
            int next = divisor % rest;
            divisor = rest;
            rest = next;
        }
        return divisor;
    }

    // ---- told pages, gone through

    private boolean isAsTold(int row) {
        // Most trials fail at the first told page: the clerks behind it need not write.
        for (int clerk = 0; clerk < bench.size; clerk++) {
            bench.takeDownBy(clerk, row);
            if (told[clerk] != UNTOLD && told[clerk] != bench.pages[clerk]) {
                return false;
            }
        }
        return true;
    }

    private int mostAlike(int n, int clerk) {
        drawers.clear();
        int most = 0;
        int end = Row.endOf(n);
        for (int row = Row.firstOf(n); row < end; row++) {
            if (isAsTold(row)) {
                most = Math.max(most, drawers.putPage(bench.pages[clerk]));
            }
        }
        return most;
    }

    // A habit to try is a number: its order is the order that the document asks for.

    private static int dropsOf(int habit) {
        return habit / (WORD_OR_NONE * WORD_OR_NONE * WAYS_TO_TIRE);
    }

    private static int fromOf(int habit) {
        return habit / (WORD_OR_NONE * WAYS_TO_TIRE) % WORD_OR_NONE;
    }

    private static int toOf(int habit) {
        return habit / WAYS_TO_TIRE % WORD_OR_NONE;
    }

    private static int tiresOf(int habit) {
        return habit % WAYS_TO_TIRE;
    }

    private boolean habitGives(int habit, int page) {
        int from = fromOf(habit);
        int to = toOf(habit);
        boolean exists = from == 0 ? to == 0 : to != 0 && to != from;
        return exists && Bench.taken(spoken, dropsOf(habit), from, to, tiresOf(habit)) == page;
    }

    /** A page has three leaves at most, so this calls itself three deep at most. */
    private static int ordersThatGive(int toldPage, int page, int laid, int used) {
        int leavesInAll = Row.leavesIn(page);
        if (used == (1 << leavesInAll) - 1) {
            return laid == toldPage ? 1 : 0;
        }
        int orders = 0;
        for (int leaf = 0; leaf < leavesInAll; leaf++) {
            int bit = 1 << leaf;
            if ((used & bit) == 0) {
                orders += ordersThatGive(toldPage, page, Row.withLeaf(laid, page, leaf), used | bit);
            }
        }
        return orders;
    }

    // ---- apart, gone through

    private boolean tellsAllApart(int set, int n) {
        drawers.clear();
        int end = Row.endOf(n);
        for (int row = Row.firstOf(n); row < end; row++) {
            bench.takeDown(row);
            if (!drawers.putNew(bench.pagesOf(set))) {
                return false;
            }
        }
        return true;
    }

    private int blindness(int n) {
        drawers.clear();
        int everybody = bench.everybody();
        int alike = 0;
        int end = Row.endOf(n);
        for (int row = Row.firstOf(n); row < end; row++) {
            bench.takeDown(row);
            if (!drawers.putNew(bench.pagesOf(everybody))) {
                alike++;
            }
        }
        return alike;
    }

    private int blindnessReformed(int n, int clerk) {
        int before = bench.from[clerk];
        bench.from[clerk] = 0;
        int alike = blindness(n);
        bench.from[clerk] = before;
        return alike;
    }

    /**
     * The sets of clerks whose pages, and no others, are unlike for the trial and for some other one:
     * bit s stands for the set s, and there are 16 sets at most.
     */
    private int setsUnlikeTrial() {
        bench.takeDown(spoken);
        System.arraycopy(bench.pages, 0, pagesOfTrial, 0, MOST_CLERKS);
        int n = Row.wordsIn(spoken);
        int sets = 0;
        int end = Row.endOf(n);
        for (int row = Row.firstOf(n); row < end; row++) {
            if (row != spoken) {
                bench.takeDown(row);
                sets |= 1 << setUnlikeTrial();
            }
        }
        return sets;
    }

    private int setUnlikeTrial() {
        int set = 0;
        for (int clerk = 0; clerk < bench.size; clerk++) {
            if (bench.pages[clerk] != pagesOfTrial[clerk]) {
                set |= 1 << clerk;
            }
        }
        return set;
    }

    /** The pages left tell the trial, if each other trial is unlike it on one of them. */
    private boolean tellsTrial(int left, int unlike) {
        int everybody = bench.everybody();
        for (int set = 0; set <= everybody; set++) {
            if ((unlike >> set & 1) != 0 && (set & left) == 0) {
                return false;
            }
        }
        return true;
    }

    private int trialBySeed(int n) {
        int row = Row.EMPTY;
        for (int place = 0; place < n; place++) {
            nowSeed = nowSeed * SEED_TIMES + SEED_AND;
            row = Row.with(row, (int) (nowSeed >>> 33) % WORDS);
        }
        return row;
    }

    /**
     * A row of words as one int: 1, and behind it two bits for each word, the first word foremost. So two
     * rows are alike if the ints are, and the rows of n words are ints that follow one another, in the
     * rows' own order.
     */
    private static final class Row {
        static final int EMPTY = 1;
        static final int BITS = 2 * MOST_WORDS + 1;

        static int wordsIn(int row) {
            int words = 0;
            for (int rest = row; rest > EMPTY && words < MOST_WORDS; rest >>= 2) {
                words++;
            }
            return words;
        }

        static int with(int row, int word) {
            return row << 2 | word;
        }

        static int withoutLast(int row) {
            return row >> 2;
        }

        static int lastWord(int row) {
            return row & 3;
        }

        static int wordAt(int row, int words, int place) {
            return row >> 2 * (words - 1 - place) & 3;
        }

        static int wordOrNone(int row, int place) {
            int words = wordsIn(row);
            return place < 0 || place >= words ? NONE : wordAt(row, words, place);
        }

        static int firstOf(int n) {
            return 1 << 2 * n;
        }

        static int endOf(int n) {
            return 2 << 2 * n;
        }

        static int asFigures(int row) {
            int words = wordsIn(row);
            int figures = 0;
            for (int place = 0; place < words; place++) {
                figures = 10 * figures + wordAt(row, words, place) + 1;
            }
            return figures;
        }

        static int leavesIn(int row) {
            return (wordsIn(row) + 1) / 2;
        }

        static int withLeaf(int row, int page, int leaf) {
            int words = wordsIn(page);
            int end = Math.min(2 * leaf + 2, words);
            int laid = row;
            for (int place = 2 * leaf; place < end; place++) {
                laid = with(laid, wordAt(page, words, place));
            }
            return laid;
        }
    }

    /** The text of a court, letter by letter: C, then six letters for each clerk. */
    private static final class CourtText {
        static final int LETTERS_OF_CLERK = 6;
        static final int DROPS = 1, FROM = 2, TO = 3, TIRES = 4, COPIES = 5;

        final int[] letters = new int[MOST_LETTERS];
        int size;

        void add(int letter) {
            if (size < MOST_LETTERS) {
                letters[size] = letter;
                size++;
            }
        }

        int firstFault() {
            for (int place = 0; place < size; place++) {
                if (!canStand(place)) {
                    return place;
                }
            }
            boolean atEnd = size > 0 && (size - 1) % LETTERS_OF_CLERK == 0;
            return atEnd ? NONE : size;
        }

        int clerksTold() {
            return (size - 1) / LETTERS_OF_CLERK;
        }

        int letterOf(int clerk, int which) {
            int place = 1 + LETTERS_OF_CLERK * clerk + which;
            return place >= 0 && place < size ? letters[place] : '-';
        }

        /** Whether this letter can follow those ahead of it, which can stand themselves. */
        private boolean canStand(int place) {
            int letter = letters[place];
            if (place == 0) {
                return letter == 'C';
            }
            int clerk = (place - 1) / LETTERS_OF_CLERK;
            if (clerk >= MOST_CLERKS) {
                return false;
            }
            switch ((place - 1) % LETTERS_OF_CLERK) {
                case DROPS:
                case FROM:
                    return letter == '-' || isWordLetter(letter);
                case TO:
                    return canBeTo(letter, letters[place - 1]);
                case TIRES:
                    return letter >= '0' && letter <= '9';
                case COPIES:
                    return letter == '-' || letter >= '0' && letter < '0' + clerk;
                default:
                    return letter == 'K';
            }
        }

        private static boolean isWordLetter(int letter) {
            return letter >= 'a' && letter < 'a' + WORDS;
        }

        private static boolean canBeTo(int letter, int from) {
            return from == '-' ? letter == '-' : isWordLetter(letter) && letter != from;
        }
    }

    /** The clerks with their habits, and their pages as they were last taken down. */
    private static final class Bench {
        static final int HABIT_BITS = 9 * MOST_CLERKS;

        final int[] drops = new int[MOST_CLERKS];
        final int[] from = new int[MOST_CLERKS];
        final int[] to = new int[MOST_CLERKS];
        final int[] tires = new int[MOST_CLERKS];
        final int[] copies = new int[MOST_CLERKS];
        final int[] pages = new int[MOST_CLERKS];
        int size;

        boolean has(int clerk) {
            return clerk >= 0 && clerk < size;
        }

        int everybody() {
            return (1 << size) - 1;
        }

        /** Clerks who are not there any more are read too, as having no habits, so that no old ones stay. */
        void readFrom(CourtText text) {
            size = Math.min(text.clerksTold(), MOST_CLERKS);
            for (int clerk = 0; clerk < MOST_CLERKS; clerk++) {
                drops[clerk] = noneOrFrom(text.letterOf(clerk, CourtText.DROPS), 'a');
                from[clerk] = noneOrFrom(text.letterOf(clerk, CourtText.FROM), 'a');
                to[clerk] = noneOrFrom(text.letterOf(clerk, CourtText.TO), 'a');
                tires[clerk] = text.letterOf(clerk, CourtText.TIRES) - '0';
                copies[clerk] = noneOrFrom(text.letterOf(clerk, CourtText.COPIES), '0');
            }
        }

        private static int noneOrFrom(int letter, int first) {
            return letter == '-' ? 0 : letter - first + 1;
        }

        void takeDown(int row) {
            for (int clerk = 0; clerk < size; clerk++) {
                takeDownBy(clerk, row);
            }
        }

        /** Clerks write in their order: each copies one of lesser number, whose page must be there. */
        void takeDownBy(int clerk, int row) {
            int other = copies[clerk] - 1;
            pages[clerk] = pageFrom(clerk, other >= 0 && other < clerk ? pages[other] : row);
        }

        int pageFrom(int clerk, int row) {
            return taken(row, drops[clerk], from[clerk], to[clerk], tires[clerk]);
        }

        static int taken(int row, int drops, int from, int to, int tires) {
            int page = Row.EMPTY;
            int words = Row.wordsIn(row);
            for (int place = 0; place < words; place++) {
                int word = Row.wordAt(row, words, place);
                boolean omits = isTired(place, tires) || word + 1 == drops;
                if (!omits) {
                    page = Row.with(page, word + 1 == from ? to - 1 : word);
                }
            }
            return page;
        }

        private static boolean isTired(int place, int tires) {
            return place > tires && (place - tires) % 2 == 1;
        }

        /** Whether a clerk is the other one, or copies him, be it through others. */
        boolean hangsOn(int clerk, int other) {
            int at = clerk;
            for (int step = 0; step < MOST_CLERKS && has(at); step++) {
                if (at == other) {
                    return true;
                }
                at = copies[at] - 1;
            }
            return false;
        }

        int wordsOnPages() {
            int words = 0;
            for (int clerk = 0; clerk < size; clerk++) {
                words += Row.wordsIn(pages[clerk]);
            }
            return words;
        }

        /** The pages of a set of clerks as one number, never 0. */
        long pagesOf(int set) {
            long all = 1L;
            for (int clerk = 0; clerk < size; clerk++) {
                if ((set >> clerk & 1) != 0) {
                    all = all << Row.BITS | pages[clerk];
                }
            }
            return all;
        }

        /** What acts can change of the clerks, in nine bits for each. */
        long habitsNow() {
            long habits = 0L;
            for (int clerk = MOST_CLERKS - 1; clerk >= 0; clerk--) {
                habits = habits << 9 | from[clerk] << 6 | to[clerk] << 3 | copies[clerk];
            }
            return habits;
        }

        void putBack(long state) {
            for (int clerk = 0; clerk < MOST_CLERKS; clerk++) {
                int habits = (int) (state >>> 9 * clerk);
                from[clerk] = habits >> 6 & 7;
                to[clerk] = habits >> 3 & 7;
                copies[clerk] = habits & 7;
            }
        }
    }

    /** The row of acts: of each the state ahead of it. */
    private static final class ActRow {
        final long[] before = new long[MOST_ACTS];
        int size;

        void remember(long state) {
            if (size >= MOST_ACTS) {
                System.arraycopy(before, 1, before, 0, MOST_ACTS - 1);
                size = MOST_ACTS - 1;
            }
            before[size] = state;
            size++;
        }

        long takeLast() {
            if (size > 0) {
                size--;
            }
            return before[size];
        }
    }

    /** Drawers where what is alike lies together; twice as many as there are trials to go through. */
    private static final class Drawers {
        static final int BITS = 2 * LONGEST_GONE_THROUGH + 1;
        static final int SIZE = 1 << BITS;
        static final long SPREAD = 0x9E3779B97F4A7C15L;

        final long[] lying = new long[SIZE];

        void clear() {
            Arrays.fill(lying, 0L);
        }

        /** A page that is no longer than the trials gone through has a drawer of its own: how many lie there. */
        int putPage(int page) {
            if (page < 0 || page >= SIZE) {
                return 0;
            }
            lying[page]++;
            return (int) lying[page];
        }

        /** Pages of several clerks lie in the first free drawer from where their number points to. */
        boolean putNew(long pages) {
            int first = (int) (pages * SPREAD >>> 64 - BITS);
            for (int step = 0; step < SIZE; step++) {
                int at = first + step & SIZE - 1;
                if (lying[at] == 0L) {
                    lying[at] = pages;
                    return true;
                }
                if (lying[at] == pages) {
                    return false;
                }
            }
            return false;
        }
    }
}
