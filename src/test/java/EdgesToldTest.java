import java.util.ArrayList;
import java.util.List;

/** The edges that promises 14 to 25 and the second part of 'Terms' name, sentence by sentence. */
public final class EdgesToldTest {
    private static final int UNKNOWN = -1, OUTSIDE = -2, STATE = -3, FULL = -4, NONE = -9;
    private static final String PLAIN = "CK---9-K---9-K---9-K---9-";
    private static final Due d = new Due("EdgesToldTest");

    public static void main(String[] args) {
        noneToldAtFirst();
        opened();
        wordsTold();
        toldFull();
        untold();
        lengths();
        rowsOfNoOtherLength();
        fitting();
        leastOne();
        leastFigures();
        surePlaces();
        sureWord();
        likelyPlaces();
        likelyParts();
        toReadFewest();
        toReadLeast();
        toReadNone();
        habitsMany();
        habitsTired();
        habitsRefused();
        habitFigures();
        habitFirst();
        habitNone();
        copiedBits();
        copiedNot();
        copiedAsTheyWrite();
        copiedRefused();
        leavesOfTwo();
        leavesAlike();
        leavesNone();
        nothingChanged();
        d.end();
    }

    private static ShorthandCourt told(String court, String words) {
        ShorthandCourt x = Due.court(court);
        Due.tell(x, 0, words);
        return x;
    }

    private static void noneToldAtFirst() {
        d.sentence("TOLD PAGES: of each CLERK a row of WORDS (6 at most) is told as his PAGE, or none is told (as at "
            + "first).");
        ShorthandCourt x = Due.court(PLAIN);
        for (int clerk = 0; clerk < 4; clerk++) {
            d.due("told of " + clerk, x.clerk(clerk, 6), NONE);
        }
        d.due("count(4)", x.count(4), 0);
        d.due("all fit", x.fits(3), 64);
        for (int clerk = 0; clerk < 4; clerk++) {
            Due.tell(x, clerk, "abcdab");
            d.due("six words of " + clerk, x.clerk(clerk, 6), 6);
        }
        d.due("count(4)", x.count(4), 15);
    }

    private static void opened() {
        d.sentence("His PAGE is told, empty at first: WORDS that were told of it before; NONE: none was told. "
            + "UNKNOWN.");
        d.taken("open", () -> Due.court(PLAIN), ShorthandCourt::open, 0, 3, UNKNOWN);
        d.taken("of none", ShorthandCourt::new, ShorthandCourt::open, 0, -1, UNKNOWN);
        ShorthandCourt x = Due.court(PLAIN);
        d.due("none was told", x.open(3), NONE);
        d.due("it is told", x.clerk(3, 6), 0);
        d.due("an empty one was", x.open(3), 0);
        Due.tell(x, 3, "abcdab");
        d.due("a full one was", x.open(3), 6);
        d.due("it is empty", x.clerk(3, 6), 0);
        d.due("it takes words anew", x.tell(3, 0), 1);
        d.due("the others are as they were", x.count(4), 8);
        x.untell(3);
        d.due("none was told any more", x.open(3), NONE);
    }

    private static void wordsTold() {
        d.sentence("A WORD comes behind his told PAGE: how many. UNKNOWN; OUTSIDE; STATE: none is told; FULL: 6.");
        d.taken("tell(0, word)", () -> told(PLAIN, ""), (x, word) -> x.tell(0, word), 0, 3, OUTSIDE);
        d.taken("of a full one", () -> told(PLAIN, "abcda"), (x, word) -> x.tell(0, word), 0, 3, OUTSIDE);
        d.taken("tell(clerk, 0)", EdgesToldTest::allOpen, (x, clerk) -> x.tell(clerk, 0), 0, 3, UNKNOWN);
        d.taken("of none", ShorthandCourt::new, (x, clerk) -> x.tell(clerk, 0), 0, -1, UNKNOWN);
        d.due("none is told", Due.court(PLAIN).tell(0, 0), STATE);
        d.due("of another one", told(PLAIN, "").tell(1, 0), STATE);
        ShorthandCourt x = told(PLAIN, "");
        x.untell(0);
        d.due("told no more", x.tell(0, 0), STATE);
        d.due("no such clerk, no word, none told", Due.court(PLAIN).tell(4, 4), UNKNOWN);
        d.due("no word, none told", Due.court(PLAIN).tell(0, 4), OUTSIDE);
        d.due("no word, none told", Due.court(PLAIN).tell(0, -1), OUTSIDE);
        ShorthandCourt y = told(PLAIN, "dc");
        d.due("behind it", y.tell(0, 0), 3);
        d.due("dca", y.least(3), 431);
    }

    private static ShorthandCourt allOpen() {
        ShorthandCourt x = Due.court(PLAIN);
        for (int clerk = 0; clerk < 4; clerk++) {
            x.open(clerk);
        }
        return x;
    }

    private static void toldFull() {
        d.sentence("STATE: none is told; FULL: 6.");
        ShorthandCourt x = told(PLAIN, "abcda");
        d.due("a sixth", x.tell(0, 1), 6);
        d.due("a seventh", x.tell(0, 2), FULL);
        d.due("a seventh that is no word", x.tell(0, 4), OUTSIDE);
        d.due("words", x.clerk(0, 6), 6);
        Due.speak(x, "abcdab");
        d.due("they are as they were told", x.copied(0), 16 + 14);
        d.due("another one's page is not full", x.open(1) + x.tell(1, 2), NONE + 1);
    }

    private static void untold() {
        d.sentence("His PAGE is told no more: WORDS that were; NONE. UNKNOWN.");
        d.taken("untell", EdgesToldTest::allOpen, ShorthandCourt::untell, 0, 3, UNKNOWN);
        d.taken("of none", ShorthandCourt::new, ShorthandCourt::untell, 0, -1, UNKNOWN);
        d.due("none was", Due.court(PLAIN).untell(0), NONE);
        ShorthandCourt x = told(PLAIN, "");
        d.due("an empty one was", x.untell(0), 0);
        d.due("none is any more", x.untell(0), NONE);
        d.due("count(4)", x.count(4), 0);
        d.due("all fit again", x.fits(1), 4);
        d.due("a full one was", told(PLAIN, "abcdab").untell(0), 6);
        ShorthandCourt y = told(PLAIN, "ab");
        y.untell(0);
        y.open(0);
        d.due("no word of it is left", y.fits(0), 1);
    }

    private static void lengths() {
        d.sentence("TRIALS of n WORDS (0 to 5): all rows of n.");
        Due.Made two = () -> Due.court("CK-ab9-K---0-");
        d.taken("fits", two, ShorthandCourt::fits, 0, 5, OUTSIDE);
        d.taken("least", two, ShorthandCourt::least, 0, 5, OUTSIDE);
        d.taken("toRead", two, ShorthandCourt::toRead, 0, 5, OUTSIDE);
        int rows = 1;
        for (int n = 0; n <= 5; n++) {
            d.due("fits(" + n + ")", two.now().fits(n), rows);
            rows *= 4;
        }

        d.sentence("How many FIT. OUTSIDE: n.");
        Due.Made nobody = () -> told(PLAIN, "abcdab");
        d.taken("fits, none does", nobody, ShorthandCourt::fits, 0, 5, OUTSIDE);
        d.due("none", nobody.now().fits(5), 0);
    }

    /** All rows of words of so many letters, as texts. */
    private static List<String> rows(int words) {
        List<String> rows = new ArrayList<>(List.of(""));
        for (int i = 0; i < words; i++) {
            List<String> longer = new ArrayList<>();
            for (String row : rows) {
                for (char word = 'a'; word <= 'd'; word++) {
                    longer.add(row + word);
                }
            }
            rows = longer;
        }
        return rows;
    }

    private static void rowsOfNoOtherLength() {
        d.sentence("all rows of n.");
        for (int words = 0; words <= 3; words++) {
            for (String row : rows(words)) {
                ShorthandCourt x = told("CK---9-K---9-", row);
                for (int n = 0; n <= 4; n++) {
                    boolean fits = n == words;
                    int least = row.isEmpty() ? 0 : Integer.parseInt(row.replace('a', '1').replace('b', '2')
                        .replace('c', '3').replace('d', '4'));
                    d.due(row + ": fits(" + n + ")", x.fits(n), fits ? 1 : 0);
                    d.due(row + ": least(" + n + ")", x.least(n), fits ? least : NONE);
                    d.due(row + ": toRead(" + n + ")", x.toRead(n), fits ? 1 : NONE);
                    if (n > 0) {
                        int last = fits ? row.charAt(n - 1) - 'a' : NONE;
                        d.due(row + ": sure(" + n + ", last)", x.sure(n, n - 1), last);
                        d.due(row + ": likely(" + n + ", 0)", x.likely(n, 0, 0, false), fits ? 1 : STATE);
                    }
                }
            }
        }
    }

    private static void fitting() {
        d.sentence("One FITS, if each CLERK of whom a PAGE is told would write just that. How many FIT;");
        ShorthandCourt x = told(PLAIN, "");
        d.due("an empty page is one: fits(0)", x.fits(0), 1);
        d.due("fits(1)", x.fits(1), 0);
        Due.tell(x, 0, "ab");
        d.due("no less: fits(3)", x.fits(3), 0);
        d.due("no more: fits(1)", x.fits(1), 0);
        d.due("fits(2)", x.fits(2), 1);
        Due.tell(x, 3, "ab");
        d.due("both, and of the others none is told", x.fits(2), 1);
        Due.tell(x, 3, "ba");
        d.due("one of them does not", x.fits(2), 0);
        x.untell(0);
        d.due("the other alone", x.fits(2), 1);
        ShorthandCourt a = told("CKa--9-", "");
        for (int n = 0; n <= 5; n++) {
            d.due("all dropped: fits(" + n + ")", a.fits(n), 1);
        }
        ShorthandCourt tired = told("CK---0-", "abc");
        d.due("two of five omitted", tired.fits(5), 16);
        d.due("one of four omitted", tired.fits(4), 0);
        ShorthandCourt copy = Due.court("CKa--9-K---90");
        Due.tell(copy, 1, "b");
        d.due("from the page he copies as it would be: ab, ba", copy.fits(2), 2);
        copy.seat(1, NONE);
        d.due("as he is seated by now", copy.fits(2), 0);
    }

    private static void leastOne() {
        d.sentence("The least that FITS (0, if n is 0); NONE. OUTSIDE.");
        d.due("n is 0", Due.court(PLAIN).least(0), 0);
        d.due("n is 0, no clerks", new ShorthandCourt().least(0), 0);
        d.due("n is 0, an empty page", told(PLAIN, "").least(0), 0);
        d.due("n is 0, and none fits", told(PLAIN, "a").least(0), NONE);
        d.due("too few", told(PLAIN, "").least(1), NONE);
        d.due("too many", told(PLAIN, "aaaaaa").least(5), NONE);
        d.taken("least, none fits", () -> told(PLAIN, "aaaaaa"), ShorthandCourt::least, 0, 5, OUTSIDE);
    }

    private static void leastFigures() {
        d.sentence("the least one (as n figures, 1 more each: 1 to 4)");
        d.due("a to d", told(PLAIN, "abcd").least(4), 1234);
        d.due("the least of all", Due.court(PLAIN).least(5), 11111);
        d.due("the only one, and the greatest of all", told(PLAIN, "ddddd").least(5), 44444);
        d.due("one figure", told(PLAIN, "d").least(1), 4);
        d.due("ab and ba", told("CKa--9-", "b").least(2), 12);
        d.due("ad and da", told("CKd--9-", "a").least(2), 14);
        d.due("cb and bc", told("CKc--9-", "b").least(2), 23);
        d.due("a or b each", told("CK-ab9-", "bb").least(2), 11);
    }

    private static void surePlaces() {
        d.sentence("OUTSIDE: n (1 to 5), place (0 to n less 1).");
        Due.Made plain = () -> Due.court(PLAIN);
        Due.Made none = () -> told(PLAIN, "abcdab");
        for (Due.Made made : new Due.Made[] {plain, none}) {
            d.taken("sure(n, 0)", made, (x, n) -> x.sure(n, 0), 1, 5, OUTSIDE);
            for (int n = 1; n <= 5; n++) {
                int words = n;
                d.taken("sure(" + n + ", place)", made, (x, place) -> x.sure(words, place), 0, n - 1, OUTSIDE);
            }
        }
        d.due("sure(0, -1)", plain.now().sure(0, -1), OUTSIDE);
        d.due("sure(6, 5)", plain.now().sure(6, 5), OUTSIDE);
    }

    private static void sureWord() {
        d.sentence("The WORD that is at a place in all that FIT; NONE: it is not one in all, or none FITS.");
        ShorthandCourt x = told(PLAIN, "adcba");
        int[] due = {0, 3, 2, 1, 0};
        for (int place = 0; place < 5; place++) {
            d.due("one fits: sure(5, " + place + ")", x.sure(5, place), due[place]);
        }
        for (int n = 1; n < 5; n++) {
            d.due("none fits: sure(" + n + ", 0)", x.sure(n, 0), NONE);
            d.due("none fits: sure(" + n + ", " + (n - 1) + ")", x.sure(n, n - 1), NONE);
        }
        d.due("all fit", Due.court(PLAIN).sure(1, 0), NONE);
        d.due("the last one is another: c or d", told("CK-cd9-", "d").sure(1, 0), NONE);
        d.due("the first one is another: a or b", told("CK-ab9-", "b").sure(1, 0), NONE);

        d.sentence("the WORD that is at a place in all that FIT;");
        // bbc, bac, abc and aac: the last one, c, is in all.
        ShorthandCourt y = told("CK-ab9-", "bbc");
        d.due("sure(3, 0)", y.sure(3, 0), NONE);
        d.due("sure(3, 1)", y.sure(3, 1), NONE);
        d.due("sure(3, 2)", y.sure(3, 2), 2);
        d.due("a in all", told("CKb--9-", "a").sure(1, 0), 0);
    }

    private static void likelyPlaces() {
        d.sentence("LIKELY. OUTSIDE: n (1 to 5), place, word; STATE: none FITS.");
        for (boolean upper : new boolean[] {true, false}) {
            Due.Made plain = () -> Due.court(PLAIN);
            d.taken("likely(n, 0, 0)", plain, (x, n) -> x.likely(n, 0, 0, upper), 1, 5, OUTSIDE);
            d.taken("likely(5, 0, word)", plain, (x, word) -> x.likely(5, 0, word, upper), 0, 3, OUTSIDE);
            for (int n = 1; n <= 5; n++) {
                int words = n;
                d.taken("likely(" + n + ", place, 0)", plain, (x, place) -> x.likely(words, place, 0, upper), 0,
                    n - 1, OUTSIDE);
            }
            Due.Made none = () -> told(PLAIN, "abcdab");
            for (int n = 1; n <= 5; n++) {
                d.due("none fits of " + n, none.now().likely(n, n - 1, 3, upper), STATE);
                d.due("none fits, place too great", none.now().likely(n, n, 3, upper), OUTSIDE);
                d.due("none fits, place too small", none.now().likely(n, -1, 3, upper), OUTSIDE);
                d.due("none fits, word too great", none.now().likely(n, 0, 4, upper), OUTSIDE);
                d.due("none fits, word too small", none.now().likely(n, 0, -1, upper), OUTSIDE);
            }
            d.due("none fits of 0", none.now().likely(0, 0, 0, upper), OUTSIDE);
            d.due("none fits of 6", none.now().likely(6, 0, 0, upper), OUTSIDE);
        }
    }

    private static void likely(ShorthandCourt x, int n, int place, int word, int above, int below) {
        String call = "likely(" + n + ", " + place + ", " + word + ", ";
        d.due(call + "true)", x.likely(n, place, word, true), above);
        d.due(call + "false)", x.likely(n, place, word, false), below);
    }

    private static void likelyParts() {
        d.sentence("LIKELY: a WORD at a place, by all that FIT.");
        // aab aba baa
        ShorthandCourt x = told("CKa--9-", "b");
        likely(x, 3, 0, 0, 2, 3);
        likely(x, 3, 0, 1, 1, 3);
        likely(x, 3, 2, 1, 1, 3);
        likely(x, 3, 0, 2, 0, 1);
        likely(x, 1, 0, 1, 1, 1);
        likely(x, 1, 0, 0, 0, 1);

        d.sentence("FRACTIONS are told above (upper = true), below (1 and more), in least terms");
        likely(Due.court(PLAIN), 1, 0, 3, 1, 4);
        likely(Due.court(PLAIN), 5, 4, 0, 1, 4);
        // aabb abab abba baab baba bbaa: 3 of 6.
        ShorthandCourt y = Due.court("CKa--9-Kb--9-");
        Due.tell(y, 0, "bb");
        Due.tell(y, 1, "aa");
        likely(y, 4, 3, 1, 1, 2);
        likely(y, 4, 3, 3, 0, 1);
        likely(told(PLAIN, "ddddd"), 5, 4, 3, 1, 1);
    }

    private static void toReadFewest() {
        d.sentence("TO READ for n: the CLERK of whom no PAGE is told for whom of TRIALS that FIT, parted by what he "
            + "would write, the most that are alike are fewest");
        // Of 2 words 4, 4 and 2 are alike at most; of 1 word 1, 2, 1; of 3 words 4, 8, 3.
        String three = "CK---0-K-ab9-Ka--9-";
        d.due("toRead(3)", Due.court(three).toRead(3), 2);
        d.due("toRead(2)", Due.court(three).toRead(2), 2);
        d.due("toRead(1)", Due.court(three).toRead(1), 0);
        // Who drops a writes 121 unlike pages of 4 words, but 6 alike; the other one 64, and 4 alike.
        d.due("not the most parts", Due.court("CKa--9-K---2-").toRead(4), 1);
        ShorthandCourt x = Due.court(three);
        x.open(2);
        d.due("no more who is told, be it empty: aa fits alone", x.toRead(2), 0);
        // b is told of a or b: the second parts them not, the third does.
        ShorthandCourt y = told("CK-ab9-K-ba9-K-cd9-", "b");
        d.due("of those that fit alone", y.toRead(1), 2);
    }

    private static void toReadLeast() {
        d.sentence("of like ones the least; NONE: none FITS, or there is no such CLERK.");
        ShorthandCourt x = Due.court(PLAIN);
        for (int clerk = 0; clerk < 4; clerk++) {
            d.due("toRead(1), told " + clerk, x.toRead(1), clerk);
            d.due("toRead(5), told " + clerk, x.toRead(5), clerk == 0 ? 0 : NONE);
            Due.tell(x, clerk, "a");
        }
        d.due("all told", x.toRead(1), NONE);
        x.untell(2);
        d.due("told no more", x.toRead(1), 2);
    }

    private static void toReadNone() {
        d.sentence("TO READ; NONE. OUTSIDE.");
        d.taken("toRead, no clerks", ShorthandCourt::new, ShorthandCourt::toRead, 0, 5, OUTSIDE);
        d.taken("toRead, none fits", () -> told(PLAIN, "abcdab"), ShorthandCourt::toRead, 0, 5, OUTSIDE);
        for (int n = 0; n <= 5; n++) {
            d.due("no clerks", new ShorthandCourt().toRead(n), NONE);
            d.due("none fits", told(PLAIN, "abcdab").toRead(n), NONE);
            d.due("the only one is told", told("CKa--9-", "").toRead(n), NONE);
            d.due("one", Due.court("CKa--9-").toRead(n), 0);
        }
    }

    private static int habits(String trial, String page) {
        ShorthandCourt x = Due.court("CK---9-");
        Due.speak(x, trial);
        Due.tell(x, 0, page);
        return x.habits(0);
    }

    private static void habitsMany() {
        d.sentence("HABITS: of one who wrote a CLERK's told PAGE from THE TRIAL (copying nobody): DROPS (5 ways, - the "
            + "first one), FROM and TO (13: - first, then by FROM, TO), TIRES (0 to 9): how many fit");
        d.due("nothing from nothing: 5 by 13 by 10", habits("", ""), 650);
        d.due("something from nothing", habits("", "a"), 0);
        // DROPS a; the others are free.
        d.due("nothing from a: 13 by 10", habits("a", ""), 130);
        d.due("nothing from d: 13 by 10", habits("d", ""), 130);
        // DROPS not a: 4; FROM not a: 10.
        d.due("a from a: 4 by 10 by 10", habits("a", "a"), 400);
        d.due("d from d: 4 by 10 by 10", habits("d", "d"), 400);
        d.due("d from a: 4 by 1 by 10", habits("a", "d"), 40);
        d.due("a from d: 4 by 1 by 10", habits("d", "a"), 40);
        d.due("two of one", habits("a", "aa"), 0);
        ShorthandCourt x = Due.court("CKa--9-Kbcd00");
        Due.speak(x, "a");
        Due.tell(x, 1, "a");
        d.due("whatever his own are, and whom he copies", x.habits(1), 400);
    }

    private static void habitsTired() {
        d.sentence("TIRES (0 to 9): how many fit");
        d.due("aa from aa: TIRES 1 to 9", habits("aa", "aa"), 4 * 10 * 9);
        d.due("a from aa: TIRES 0", habits("aa", "a"), 4 * 10);
        d.due("six of six: TIRES 5 to 9", habits("aaaaaa", "aaaaaa"), 4 * 10 * 5);
        d.due("five of six: TIRES 3 and 4", habits("aaaaaa", "aaaaa"), 4 * 10 * 2);
        d.due("four of six: TIRES 1 and 2", habits("aaaaaa", "aaaa"), 4 * 10 * 2);
        d.due("three of six: TIRES 0", habits("aaaaaa", "aaa"), 4 * 10);
        d.due("two of six", habits("aaaaaa", "aa"), 0);
    }

    private static void habitsRefused() {
        d.sentence("HABITS: how many fit. UNKNOWN; STATE: no PAGE is told.");
        d.taken("habits", EdgesToldTest::allOpen, ShorthandCourt::habits, 0, 3, UNKNOWN);
        d.taken("of none", ShorthandCourt::new, ShorthandCourt::habits, 0, -1, UNKNOWN);
        d.due("none is told", Due.court(PLAIN).habits(0), STATE);
        d.due("no such clerk, none is told", Due.court(PLAIN).habits(4), UNKNOWN);
        d.due("another one's is", told(PLAIN, "").habits(1), STATE);
        ShorthandCourt x = told(PLAIN, "");
        x.untell(0);
        d.due("told no more", x.habits(0), STATE);
    }

    private static int habit(String trial, String page) {
        ShorthandCourt x = Due.court("CK---9-");
        Due.speak(x, trial);
        Due.tell(x, 0, page);
        return x.habit(0);
    }

    private static void habitFigures() {
        d.sentence("as four figures: 0 none, else a WORD and 1; TIRES.");
        d.due("no habit at all", habit("", ""), 0);
        String words = "abcd";
        for (int from = 0; from < 4; from++) {
            String one = words.substring(from, from + 1);
            d.due("he drops " + one, habit(one, ""), 1000 * (from + 1));
            for (int to = 0; to < 4; to++) {
                String other = words.substring(to, to + 1);
                d.due(other + " for " + one, habit(one, other), from == to ? 0 : 100 * (from + 1) + 10 * (to + 1));
            }
        }
        d.due("TIRES 0", habit("aaaaaa", "aaa"), 0);
        d.due("TIRES 5, where none is omitted", habit("aaaaaa", "aaaaaa"), 5);
        // d dropped, and b for c: no word can be omitted at 4 or 5.
        d.due("all four", habit("dcdaba", "baba"), 4325);
    }

    private static void habitFirst() {
        d.sentence("the first one (by DROPS, then FROM, TO, then TIRES)");
        d.due("- ahead of dropping c", habit("ab", "ab"), 1);
        d.due("DROPS ahead of FROM: 0120 ahead of 1001", habit("ab", "b"), 120);
        d.due("DROPS ahead of TIRES: 1001 ahead of 2000", habit("caba", "c"), 1001);
        d.due("FROM ahead of TIRES: 0001 ahead of 0320", habit("abc", "ab"), 1);
        d.due("by FROM: 0141 ahead of 0240", habit("cab", "cd"), 141);
        d.due("by TIRES: 3 ahead of 4", habit("aaaaaa", "aaaaa"), 3);
        ShorthandCourt x = Due.court("CKa--9-K---90");
        Due.speak(x, "ab");
        Due.tell(x, 1, "b");
        d.due("from THE TRIAL, though he copies b", x.habit(1), 120);
    }

    private static void habitNone() {
        d.sentence("The first one, as four figures (DROPS, FROM, TO, TIRES); NONE: none fits. UNKNOWN; STATE.");
        d.taken("habit", EdgesToldTest::allOpen, ShorthandCourt::habit, 0, 3, UNKNOWN);
        d.taken("of none", ShorthandCourt::new, ShorthandCourt::habit, 0, -1, UNKNOWN);
        d.due("none fits", habit("", "a"), NONE);
        d.due("none fits", habit("aaaaaa", "aa"), NONE);
        d.due("none is told", Due.court(PLAIN).habit(0), STATE);
        d.due("no such clerk, none is told", Due.court(PLAIN).habit(4), UNKNOWN);
        d.due("another one's is", told(PLAIN, "").habit(1), STATE);
        ShorthandCourt x = told(PLAIN, "");
        x.untell(0);
        d.due("told no more", x.habit(0), STATE);
    }

    private static void copied(String court, int... due) {
        ShorthandCourt x = Due.court(court);
        for (int clerk = 0; clerk < 4; clerk++) {
            x.open(clerk);
            d.due("nothing spoken, " + court + ": copied(" + clerk + ")", x.copied(clerk), due[clerk]);
        }
    }

    private static void copiedBits() {
        d.sentence("COPIED: from which CLERKS (bits), or from THE TRIAL (bit 4), a CLERK with DROPS, FROM, TO, TIRES "
            + "as they are can have written his told PAGE");
        copied(PLAIN, 30, 29, 27, 23);
        // abcd; the pages bcd, acd, abd of the others.
        ShorthandCourt x = Due.court("CKa--9-Kb--9-Kc--9-K---9-");
        Due.speak(x, "abcd");
        String[] pages = {"bcd", "acd", "abd", "", "abcd", "abc"};
        int[] due = {1, 2, 4, 0, 16, 0};
        for (int i = 0; i < pages.length; i++) {
            Due.tell(x, 3, pages[i]);
            d.due("told " + pages[i], x.copied(3), due[i]);
        }
        ShorthandCourt y = Due.court("CK-ab9-K---9-");
        Due.speak(y, "ab");
        Due.tell(y, 0, "bb");
        d.due("from the trial and from one of greater number", y.copied(0), 16 + 2);
        y.reform(0);
        d.due("as they are by now", y.copied(0), 0);
        Due.tell(y, 0, "ab");
        d.due("as they are by now", y.copied(0), 16 + 2);
    }

    private static void copiedNot() {
        d.sentence("(not from himself, nor from one that COPIES him, or one that does; PAGES of others as they write)");
        copied("CK---9-K---90K---91K---92", 16, 16 + 1, 16 + 1 + 2, 16 + 1 + 2 + 4);
        copied("CK---9-K---90K---90K---91", 16, 16 + 1 + 4, 16 + 1 + 2 + 8, 16 + 1 + 2 + 4);
        copied("CK---9-K---9-K---91K---9-", 16 + 2 + 4 + 8, 16 + 1 + 8, 16 + 1 + 2 + 8, 16 + 1 + 2 + 4);
        ShorthandCourt x = Due.court("CK---9-K---90");
        x.open(0);
        x.seat(1, NONE);
        d.due("one that copied him, and does no more", x.copied(0), 16 + 2);
        x.undo();
        d.due("and does again", x.copied(0), 16);
    }

    private static void copiedAsTheyWrite() {
        d.sentence("PAGES of others as they write");
        ShorthandCourt x = Due.court("CKa--9-K---90");
        Due.speak(x, "ab");
        Due.tell(x, 0, "ab");
        Due.tell(x, 1, "b");
        d.due("not as they are told", x.copied(1), 1);
        Due.tell(x, 1, "ab");
        d.due("from the trial, though he copies another one", x.copied(1), 16);
    }

    private static void copiedRefused() {
        d.sentence("COPIED, as bits. UNKNOWN; STATE: no PAGE is told.");
        d.taken("copied", EdgesToldTest::allOpen, ShorthandCourt::copied, 0, 3, UNKNOWN);
        d.taken("of none", ShorthandCourt::new, ShorthandCourt::copied, 0, -1, UNKNOWN);
        d.due("none is told", Due.court(PLAIN).copied(0), STATE);
        d.due("no such clerk, none is told", Due.court(PLAIN).copied(4), UNKNOWN);
        d.due("another one's is", told(PLAIN, "").copied(1), STATE);
        d.due("from nobody", told(PLAIN, "a").copied(0), 0);
    }

    private static int leaves(String trial, String page) {
        ShorthandCourt x = Due.court("CK---9-");
        Due.speak(x, trial);
        Due.tell(x, 0, page);
        return x.leaves(0);
    }

    private static void leavesOfTwo() {
        d.sentence("LEAVES of two WORDS (the last one perhaps of one): in how many orders of all LEAVES of a CLERK's "
            + "PAGE (as he writes) his told PAGE comes to be");
        d.due("no leaf: one order", leaves("", ""), 1);
        d.due("no leaf, but a word", leaves("", "a"), 0);
        d.due("one of one", leaves("a", "a"), 1);
        d.due("one of two", leaves("ab", "ab"), 1);
        d.due("one of two is not turned", leaves("ab", "ba"), 0);
        for (String page : new String[] {"abc", "cab"}) {
            d.due("two and one: " + page, leaves("abc", page), 1);
        }
        for (String page : new String[] {"acb", "bac", "bca", "cba", "ab", "abcc"}) {
            d.due("two and one: " + page, leaves("abc", page), 0);
        }
        for (String page : new String[] {"abcdca", "abcacd", "cdabca", "cdcaab", "caabcd", "cacdab"}) {
            d.due("three: " + page, leaves("abcdca", page), 1);
        }
        for (String page : new String[] {"abcda", "abacd", "cdaba", "cdaab", "aabcd", "acdab"}) {
            d.due("two, two and one: " + page, leaves("abcda", page), 1);
        }
        d.due("not all of them", leaves("abcd", "ab"), 0);
        d.due("none of them", leaves("a", ""), 0);
        d.due("one of them twice", leaves("abcd", "abab"), 0);
        ShorthandCourt x = Due.court("CK---9-Ka--90");
        Due.speak(x, "abacad");
        Due.tell(x, 1, "dbc");
        d.due("of the page as he writes", x.leaves(1), 1);
        Due.tell(x, 0, "abadac");
        d.due("not of another one's told page", x.leaves(1), 1);
    }

    private static void leavesAlike() {
        d.sentence("(LEAVES that are alike count each)");
        d.due("two alike", leaves("abab", "abab"), 2);
        d.due("two alike and another", leaves("abcdab", "ababcd"), 2);
        d.due("three alike", leaves("ababab", "ababab"), 6);
        d.due("unlike ones that make the same: aa a", leaves("aaa", "aaa"), 2);
        d.due("aa aa a", leaves("aaaaa", "aaaaa"), 6);
    }

    private static void leavesNone() {
        d.sentence("LEAVES; NONE. UNKNOWN.");
        d.taken("leaves", EdgesToldTest::allOpen, ShorthandCourt::leaves, 0, 3, UNKNOWN);
        d.taken("of none", ShorthandCourt::new, ShorthandCourt::leaves, 0, -1, UNKNOWN);

        d.sentence("NONE: none is told.");
        ShorthandCourt x = Due.court(PLAIN);
        d.due("none is told, nothing written", x.leaves(0), NONE);
        x.speak(0);
        d.due("none is told", x.leaves(0), NONE);
        x.open(0);
        d.due("an empty one is told", x.leaves(0), 0);
        d.due("another one's is told", x.leaves(1), NONE);
        x.untell(0);
        d.due("told no more", x.leaves(0), NONE);
        d.due("no such clerk, none is told", x.leaves(4), UNKNOWN);
    }

    private static ShorthandCourt busy() {
        ShorthandCourt x = Due.court("CK-ab9-K---9-Kbcd20K---12");
        Due.speak(x, "abcd");
        x.keep(0);
        x.reform(2);
        x.seat(3, 0);
        Due.tell(x, 1, "abc");
        x.open(3);
        x.seed(41);
        return x;
    }

    private static void nothingChanged() {
        d.sentence("In what follows nothing is changed.");
        String before = Whole.of(busy());
        for (int n = 0; n <= 5; n++) {
            ShorthandCourt x = busy();
            x.fits(n);
            x.least(n);
            x.sure(n, 0);
            x.likely(n, n - 1, 2, true);
            x.toRead(n);
            x.habits(n);
            x.habit(n);
            x.copied(n);
            x.leaves(n);
            x.fewest(n);
            x.blind(n);
            x.whom(n);
            x.lost(n, false);
            d.same("all that can be asked, after questions of " + n, Whole.of(x), before);
        }
    }
}
