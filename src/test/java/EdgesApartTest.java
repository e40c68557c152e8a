import java.math.BigInteger;

/** The edges that promises 26 to 31 and the third part of 'Terms' name, sentence by sentence. */
public final class EdgesApartTest {
    private static final int OUTSIDE = -2, STATE = -3, NONE = -9;
    private static final String PLAIN = "CK---9-K---9-K---9-K---9-";
    private static final BigInteger TIMES = new BigInteger("6364136223846793005");
    private static final BigInteger AND = new BigInteger("1442695040888963407");
    private static final Due d = new Due("EdgesApartTest");

    public static void main(String[] args) {
        fewestClerks();
        fewestLeast();
        fewestNone();
        blindMany();
        blindRefused();
        whomLeast();
        whomAlone();
        whomNone();
        lostTenths();
        lostLeft();
        lostWords();
        seedTold();
        daysTaken();
        seedWraps();
        upperBits();
        trialsOfDays();
        nothingButSeed();
        d.end();
    }

    private static void fewestClerks() {
        d.sentence("APART for n: a set of CLERKS (bits) by whose PAGES, together, no two TRIALS of n WORDS are alike: "
            + "FEWEST: of these the one of fewest CLERKS");
        for (int plain = 0; plain < 4; plain++) {
            StringBuilder court = new StringBuilder("C");
            for (int clerk = 0; clerk < 4; clerk++) {
                court.append(clerk == plain ? "K---9-" : "K-ab9-");
            }
            d.due("one writes all: " + court, Due.court(court.toString()).fewest(5), 1 << plain);
        }
        // Who tires at once writes one word of two; of the others one can't tell a from b, one c from d.
        for (int first = 0; first < 4; first++) {
            for (int second = 0; second < 4; second++) {
                StringBuilder court = new StringBuilder("C");
                for (int clerk = 0; clerk < 4; clerk++) {
                    court.append(clerk == first ? "K-ab9-" : clerk == second ? "K-cd9-" : "K---0-");
                }
                int due = first == second ? NONE : 1 << first | 1 << second;
                d.due("two together: " + court, Due.court(court.toString()).fewest(2), due);
            }
        }
        d.due("three together", Due.court("CKa--9-Kb--9-Kc--9-").fewest(2), 7);
        // Of three words two write places 0 and 2, two places 0 and 1, and of these each can't tell two words.
        ShorthandCourt x = Due.court("CK-ab0-K-cd0-K-ab1-K-cd1-");
        d.due("four together: fewest(3)", x.fewest(3), 15);
        d.due("fewest(5)", x.fewest(5), 15);
        d.due("fewest(2)", x.fewest(2), 12);
        d.due("fewest(1)", x.fewest(1), 3);
        d.due("fewest(0)", x.fewest(0), 0);
    }

    private static void fewestLeast() {
        d.sentence("of like ones the least by bits; NONE.");
        d.due("of four", Due.court(PLAIN).fewest(5), 1);
        d.due("of 3, 6, 9, 12", Due.court("CK-ab9-K-cd9-K-ab9-K-cd9-").fewest(3), 3);
        d.due("of 5, 6, 9, 10", Due.court("CK-ab9-K-ab9-K-cd9-K-cd9-").fewest(3), 5);
        d.due("of 6, 10, 12", Due.court("CK---0-K-ab9-K-cd9-K-bc9-").fewest(2), 6);
        d.due("8, though 3 is less", Due.court("CK-ab9-K-cd9-K---0-K---9-").fewest(5), 8);
    }

    private static void fewestNone() {
        d.sentence("FEWEST, as bits; NONE. OUTSIDE: n (0 to 5).");
        d.taken("fewest", () -> Due.court(PLAIN), ShorthandCourt::fewest, 0, 5, OUTSIDE);
        d.taken("no clerks", ShorthandCourt::new, ShorthandCourt::fewest, 0, 5, OUTSIDE);
        d.due("one trial of no words: nobody is needed", new ShorthandCourt().fewest(0), 0);
        d.due("one trial of no words", Due.court(PLAIN).fewest(0), 0);
        for (int n = 1; n <= 5; n++) {
            d.due("no clerks", new ShorthandCourt().fewest(n), NONE);
            d.due("all four can't tell a from b", Due.court("CK-ab9-K-ba9-K-ab00K-ba91").fewest(n), NONE);
        }
        d.due("the only two alike", Due.court("CKa--9-").fewest(2), NONE);
        d.due("none alike", Due.court("CKa--9-").fewest(1), 1);
    }

    private static void blindMany() {
        d.sentence("BLIND for n: how many TRIALS of n WORDS there are, less how many unlike PAGES (of all CLERKS "
            + "together) they make.");
        int[] nobody = {0, 3, 15, 63, 255, 1023};
        int[] ab = {0, 4 - 3, 16 - 9, 64 - 27, 256 - 81, 1024 - 243};
        int[] places = {0, 0, 16 - 4, 64 - 16, 256 - 16, 1024 - 64};
        for (int n = 0; n <= 5; n++) {
            d.due("nobody: blind(" + n + ")", new ShorthandCourt().blind(n), nobody[n]);
            d.due("a as b: blind(" + n + ")", Due.court("CK-ab9-").blind(n), ab[n]);
            d.due("tired at once: blind(" + n + ")", Due.court("CK---0-").blind(n), places[n]);
            d.due("all told: blind(" + n + ")", Due.court("CK-ab9-K---9-K---0-").blind(n), 0);
        }
        d.due("four together: blind(5)", Due.court("CK-ab0-K-cd0-K-ab1-K-cd1-").blind(5), 0);
        d.due("three of them: blind(3)", Due.court("CK-ab0-K-cd0-K-ab1-").blind(3), 64 - 48);
    }

    private static void blindRefused() {
        d.sentence("BLIND. OUTSIDE: n.");
        d.taken("blind", () -> Due.court("CK-ab9-"), ShorthandCourt::blind, 0, 5, OUTSIDE);
        d.taken("no clerks", ShorthandCourt::new, ShorthandCourt::blind, 0, 5, OUTSIDE);
    }

    private static void whomLeast() {
        d.sentence("WHOM to reform for n: the CLERK who, REFORMED alone, makes BLIND least; of like ones the least");
        // Of two words 7 are alike; the first one reformed leaves 4 of them, each of the others none.
        ShorthandCourt x = Due.court("CK-ab0-K-ab9-K-ab9-");
        d.due("whom(2)", x.whom(2), 1);
        d.due("of one word all are like: whom(1)", x.whom(1), 0);
        d.due("the last of four", Due.court("CK-ab0-K-ab0-K-ab0-K-ab9-").whom(2), 3);
        d.due("the first of four", Due.court("CK-ab9-K-ab9-K-ab9-K-ab9-").whom(5), 0);
    }

    private static void whomAlone() {
        d.sentence("REFORMED alone");
        // Who copies one that can't tell a from b gains nothing by himself.
        ShorthandCourt x = Due.court("CK-ab9-K-ab90");
        d.due("whom(3)", x.whom(3), 0);
        d.due("nobody is reformed by the question", x.clerk(0, 1), 0);
        d.due("TO", x.clerk(0, 2), 1);
        d.due("FROM of the other", x.clerk(1, 1), 0);
        d.due("it is no act", x.count(3), 0);
        d.due("asked again", x.whom(3), 0);
        x.reform(0);
        d.due("the first one is reformed: all are told", x.whom(3), NONE);
        x.undo();
        d.due("undone", x.whom(3), 0);
        // One writes places 0 and 2, the other 0 and 1: each alone leaves 16 alike, and both together none.
        ShorthandCourt y = Due.court("CK-ab0-K-ab1-");
        d.due("the second is not asked with the first one reformed too", y.whom(3), 0);
    }

    private static void whomNone() {
        d.sentence("NONE: by none it is less.");
        for (int n = 0; n <= 5; n++) {
            d.due("no clerks", new ShorthandCourt().whom(n), NONE);
            d.due("all told anyway", Due.court("CK-ab9-K---9-").whom(n), NONE);
            d.due("none has FROM", Due.court("CKa--9-K---0-").whom(n), NONE);
            d.due("he drops what he would write for", Due.court("CKaab9-").whom(n), NONE);
        }
        d.due("no words", Due.court("CK-ab9-").whom(0), NONE);
        d.due("one word", Due.court("CK-ab9-").whom(1), 0);

        d.sentence("WHOM to reform; NONE. OUTSIDE: n.");
        d.taken("whom", () -> Due.court("CK-ab9-"), ShorthandCourt::whom, 0, 5, OUTSIDE);
        d.taken("no clerks", ShorthandCourt::new, ShorthandCourt::whom, 0, 5, OUTSIDE);
    }

    private static void lost(ShorthandCourt x, int tenths, int above, int below) {
        d.due("lost(" + tenths + ", true)", x.lost(tenths, true), above);
        d.due("lost(" + tenths + ", false)", x.lost(tenths, false), below);
    }

    private static void lostTenths() {
        d.sentence("LOST: each PAGE is lost by x tenths (0 to 10), by itself");
        ShorthandCourt one = Due.court("CK---9-");
        Due.speak(one, "abcd");
        int[] above = {1, 9, 4, 7, 3, 1, 2, 3, 1, 1, 0};
        int[] below = {1, 10, 5, 10, 5, 2, 5, 10, 5, 10, 1};
        for (int x = 0; x <= 10; x++) {
            lost(one, x, above[x], below[x]);
        }
        ShorthandCourt four = Due.court(PLAIN);
        Due.speak(four, "a");
        lost(four, 0, 1, 1);
        lost(four, 1, 9999, 10000);
        lost(four, 5, 15, 16);
        lost(four, 9, 3439, 10000);
        lost(four, 10, 0, 1);

        d.sentence("LOST. OUTSIDE: x; STATE: THE TRIAL has 6 WORDS.");
        for (boolean upper : new boolean[] {true, false}) {
            d.taken("lost", () -> Due.court(PLAIN), (x, tenths) -> x.lost(tenths, upper), 0, 10, OUTSIDE);
            Due.Made full = () -> spoken("abcdab");
            d.refused("lost, with 6 words", full, (x, tenths) -> x.lost(tenths, upper), STATE, 0, 1, 5, 9, 10);
            d.refused("lost, with 6 words", full, (x, tenths) -> x.lost(tenths, upper), OUTSIDE, -1, 11,
                Integer.MIN_VALUE, Integer.MAX_VALUE);
        }
        d.due("with 6 words and no clerks", sixOfNobody().lost(0, true), STATE);
    }

    private static ShorthandCourt spoken(String words) {
        ShorthandCourt x = Due.court(PLAIN);
        Due.speak(x, words);
        return x;
    }

    private static ShorthandCourt sixOfNobody() {
        ShorthandCourt x = new ShorthandCourt();
        Due.speak(x, "aaaaaa");
        return x;
    }

    private static void lostLeft() {
        d.sentence("the chance that what is left tells THE TRIAL");
        // a and b are alike for the first one: he tells c, but not a; the second one tells both.
        ShorthandCourt x = Due.court("CK-ab9-K---9-");
        x.speak(0);
        lost(x, 2, 4, 5);
        lost(x, 10, 0, 1);
        x.strike();
        x.speak(2);
        lost(x, 2, 24, 25);
        // The copy is made ahead of the loss, and knows no more than its original.
        ShorthandCourt copy = Due.court("CK-ab9-K---90");
        copy.speak(2);
        lost(copy, 5, 3, 4);
        copy.strike();
        copy.speak(1);
        lost(copy, 0, 0, 1);
        // Only together: a is told from b by the one, from c by the other.
        ShorthandCourt both = Due.court("CK-ab9-K-ac9-");
        both.speak(0);
        lost(both, 1, 81, 100);
    }

    private static void lostWords() {
        d.sentence("(no other one of as many WORDS, if they are 5 at most, makes the same PAGES of those that are "
            + "left): a FRACTION.");
        for (int x = 0; x <= 10; x += 5) {
            lost(new ShorthandCourt(), x, 1, 1);
            lost(Due.court(PLAIN), x, 1, 1);
        }
        ShorthandCourt tired = Due.court("CK---4-");
        Due.speak(tired, "abcda");
        lost(tired, 0, 1, 1);
        tired.speak(1);
        d.due("a sixth word", tired.lost(0, true), STATE);
        tired.strike();
        lost(tired, 0, 1, 1);
        ShorthandCourt once = Due.court("CK---0-");
        once.speak(3);
        lost(once, 0, 1, 1);
        once.speak(3);
        lost(once, 0, 0, 1);
        // He writes nothing of a, and something of each other row of one word.
        ShorthandCourt drops = Due.court("CKa--9-");
        drops.speak(0);
        lost(drops, 0, 1, 1);
        ShorthandCourt nobody = new ShorthandCourt();
        nobody.speak(0);
        lost(nobody, 0, 0, 1);
    }

    private static void seedTold() {
        d.sentence("THE SEED is v: what it was.");
        ShorthandCourt x = new ShorthandCourt();
        d.due("0 at first", x.seed(Long.MIN_VALUE), 0);
        d.due("the least", x.seed(Long.MAX_VALUE), Long.MIN_VALUE);
        d.due("the greatest", x.seed(-1), Long.MAX_VALUE);
        d.due("-1", x.seed(1L << 32), -1);
        d.due("beyond an int", x.seed(0), 1L << 32);
        d.due("0", x.seed(0), 0);

        d.sentence("(THE SEED, a long; 0 at first)");
        ShorthandCourt y = Due.court("CKd--9-");
        d.due("the first word by 0 is d", y.days(1, 1), 0);
        d.due("the seed behind it", y.seed(0), 1442695040888963407L);
    }

    private static void daysTaken() {
        d.sentence("DAYS by THE SEED: m TRIALS (1 to 30) of n WORDS (1 to 6), each WORD by x");
        for (int other = 1; other <= 6; other++) {
            int n = other;
            d.taken("days(m, " + n + ")", () -> Due.court(PLAIN), (x, m) -> x.days(m, n), 1, 30, OUTSIDE);
        }
        for (int m : new int[] {1, 2, 29, 30}) {
            d.taken("days(" + m + ", n)", () -> Due.court(PLAIN), (x, n) -> x.days(m, n), 1, 6, OUTSIDE);
        }

        d.sentence("DAYS. OUTSIDE: m, n.");
        int[][] both = {{0, 0}, {31, 7}, {0, 7}, {31, 0}, {-1, -1}, {Integer.MAX_VALUE, Integer.MAX_VALUE}};
        for (int[] wrong : both) {
            ShorthandCourt x = Due.court(PLAIN);
            x.seed(9);
            d.due("days(" + wrong[0] + ", " + wrong[1] + ")", x.days(wrong[0], wrong[1]), OUTSIDE);
            d.due("the seed stays", x.seed(0), 9);
        }
    }

    private static long after(long seed, int words) {
        BigInteger x = BigInteger.valueOf(seed);
        for (int i = 0; i < words; i++) {
            x = x.multiply(TIMES).add(AND);
        }
        return x.longValue();
    }

    private static void seedWraps() {
        d.sentence("that becomes x times 6364136223846793005 and 1442695040888963407 (64 bits, wrapping)");
        long[][] steps = {
            {0, 1442695040888963407L}, {1, 7806831264735756412L}, {2, -4275776585127002199L},
            {-1, -4921441182957829598L}, {Long.MAX_VALUE, 4301930853896946210L},
            {Long.MIN_VALUE, -7780676995965812401L}};
        for (long[] step : steps) {
            ShorthandCourt x = new ShorthandCourt();
            x.seed(step[0]);
            d.due("no clerks, and all the same: days(1, 1)", x.days(1, 1), 0);
            d.due("the seed behind " + step[0], x.seed(step[0]), step[1]);
            x.days(30, 6);
            d.due("180 words behind " + step[0], x.seed(step[0]), after(step[0], 180));
            x.days(7, 3);
            x.days(2, 5);
            d.due("31 words behind " + step[0], x.seed(0), after(step[0], 31));
        }
    }

    private static void upperBits() {
        d.sentence("its upper 31 bits by 4, what is left");
        // Of each: the seed by which the next one is such, and the word.
        long[][] words = {
            {-7379792620528906219L, 0L, 0}, {4483922187169113968L, (1L << 33) - 1, 0},
            {-84997745826115563L, 1L << 33, 1}, {7209797128876675093L, 1L << 34, 2},
            {-3942152070130085867L, 3L << 33, 3}, {7921562737567934320L, (1L << 35) - 1, 3},
            {3352642804572704789L, 1L << 35, 0}, {6412499349321099120L, Long.MAX_VALUE, 3},
            {1843579416325869589L, Long.MIN_VALUE, 0}, {5281219966724689941L, 1L << 63 | 3L << 33, 3},
            {-2810872687533676688L, -1L, 3}};
        for (long[] one : words) {
            for (int drops = 0; drops < 4; drops++) {
                ShorthandCourt x = Due.court("CK" + (char) ('a' + drops) + "--9-");
                x.seed(one[0]);
                d.due("a word of upper bits of " + one[1] + ", " + drops + " dropped", x.days(1, 1),
                    one[2] == drops ? 0 : 1);
                d.due("the seed", x.seed(0), one[1]);
            }
        }
    }

    private static void trialsOfDays() {
        d.sentence("how many WORDS stand on PAGES of all CLERKS, all TRIALS together.");
        ShorthandCourt tired = Due.court("CK---0-");
        ShorthandCourt all = Due.court(PLAIN);
        for (int n = 1; n <= 6; n++) {
            for (int m = 1; m <= 30; m++) {
                d.due("tired at once: days(" + m + ", " + n + ")", tired.days(m, n), m * ((n + 1) / 2));
                d.due("four: days(" + m + ", " + n + ")", all.days(m, n), 4 * m * n);
            }
        }
        // The first twelve by 0 were worked out apart from any program of this project.
        String first = firstWords(12);
        d.same("the first words by 0", first, "dababdadaddc");
        for (int n = 1; n <= 6; n++) {
            ShorthandCourt x = Due.court("CKa--0-Kd--1-K---31");
            Due.speak(x, first.substring(0, n));
            int due = x.count(5);
            d.due("days(1, " + n + ") by 0", x.days(1, n), due);
        }
        ShorthandCourt acts = Due.court("CKb--0-K---90K-ab9-");
        d.due("as they are seated: d, d and all six", acts.days(1, 6), 1 + 1 + 6);
        acts.seat(1, NONE);
        acts.seed(0);
        d.due("as they are seated by now: d, all six and all six", acts.days(1, 6), 1 + 6 + 6);
        // dab and abd, then dababd: who tires at once and drops b writes d and a d, then d.
        ShorthandCourt cut = Due.court("CKb--0-");
        d.due("each trial begins at place 0: days(2, 3)", cut.days(2, 3), 1 + 2);
        cut.seed(0);
        d.due("days(1, 6)", cut.days(1, 6), 1);
    }

    /** The first words by 0, told by who drops what: a page of no word is of the one that is dropped. */
    private static String firstWords(int words) {
        StringBuilder found = new StringBuilder();
        for (int at = 0; at < words; at++) {
            for (int drops = 0; drops < 4; drops++) {
                ShorthandCourt x = Due.court("CK" + (char) ('a' + drops) + "--9-");
                x.seed(after(0, at));
                if (x.days(1, 1) == 0) {
                    found.append((char) ('a' + drops));
                }
            }
        }
        return found.toString();
    }

    private static ShorthandCourt busy() {
        ShorthandCourt x = Due.court("CK-ab9-K---9-Kbcd20K---12");
        Due.speak(x, "abcd");
        x.keep(0);
        x.reform(2);
        x.seat(3, 0);
        Due.tell(x, 1, "abc");
        x.open(3);
        x.seed(41);
        return x;
    }

    private static void nothingButSeed() {
        d.sentence("(Nothing changes but THE SEED.)");
        String before = Whole.of(busy());
        ShorthandCourt x = busy();
        x.days(30, 6);
        d.due("the seed", x.seed(41), after(41, 180));
        d.same("all else that can be asked", Whole.of(x), before);
    }
}
