/** Promises 26 to 31: apart, chance, the seed. */
public final class ApartTest {
    private static final int OUTSIDE = -2, STATE = -3, NONE = -9;
    private static final Due d = new Due("ApartTest");

    public static void main(String[] args) {
        promise26();
        promise27();
        promise28();
        promise29();
        promise30();
        promise31();
        d.end();
    }

    private static void promise26() {
        ShorthandCourt x = new ShorthandCourt();
        d.due("no clerks: fewest(0)", x.fewest(0), 0);
        d.due("no clerks: fewest(1)", x.fewest(1), NONE);
        d.due("fewest(-1)", x.fewest(-1), OUTSIDE);
        d.due("fewest(6)", x.fewest(6), OUTSIDE);
        d.due("fewest(MIN)", x.fewest(Integer.MIN_VALUE), OUTSIDE);
        Due.anew(x, "CK-ab9-K-cd9-K---4-K---9-");
        d.due("fewest(0)", x.fewest(0), 0);
        d.due("one of two: the lesser", x.fewest(5), 4);
        Due.anew(x, "CK-ab9-K-cd9-K---0-K---9-");
        d.due("one, though two lesser ones would do", x.fewest(5), 8);
        d.due("one is enough of one word", x.fewest(1), 4);
        // The first can't tell a from b, the second c from d: together they can.
        Due.anew(x, "CK-ab9-K-cd9-K-ab9-K-cd9-");
        d.due("two, the least by bits", x.fewest(5), 3);
        Due.anew(x, "CK-ab9-K-ab9-K-ba9-K-cd9-");
        d.due("two, the least by bits", x.fewest(3), 9);
        Due.anew(x, "CK-ab9-K-cd90");
        d.due("who copies knows no more", x.fewest(1), NONE);
        Due.anew(x, "CK---0-Ka--9-");
        d.due("places and what is no a: fewest(3)", x.fewest(3), 3);
        d.due("babb and bbba: fewest(4)", x.fewest(4), NONE);
        Due.anew(x, "CKa--9-");
        d.due("nothing and a: fewest(1)", x.fewest(1), 1);
        d.due("ab and ba: fewest(2)", x.fewest(2), NONE);
        // Of two unlike words there is one who drops neither.
        Due.anew(x, "CKa--9-Kb--9-Kc--9-");
        d.due("three droppers: fewest(2)", x.fewest(2), 7);
    }

    private static void promise27() {
        ShorthandCourt x = new ShorthandCourt();
        int[] none = {0, 3, 15, 63, 255, 1023};
        for (int n = 0; n <= 5; n++) {
            d.due("no clerks: blind(" + n + ")", x.blind(n), none[n]);
        }
        d.due("blind(-1)", x.blind(-1), OUTSIDE);
        d.due("blind(6)", x.blind(6), OUTSIDE);
        Due.anew(x, "CK-ab9-");
        d.due("three words of four: blind(2)", x.blind(2), 16 - 9);
        d.due("blind(5)", x.blind(5), 1024 - 243);
        Due.anew(x, "CKa--9-");
        d.due("rows of three words, 2 at most: blind(2)", x.blind(2), 16 - 13);
        d.due("blind(5)", x.blind(5), 1024 - 364);
        Due.anew(x, "CK---0-");
        d.due("places 0, 2, 4: blind(5)", x.blind(5), 1024 - 64);
        Due.anew(x, "CK---0-K-ab9-");
        d.due("both together: blind(2)", x.blind(2), 16 - 12);
        Due.anew(x, "CK---9-K-ab9-");
        d.due("one who writes all", x.blind(5), 0);
    }

    private static void promise28() {
        ShorthandCourt x = new ShorthandCourt();
        d.due("no clerks", x.whom(3), NONE);
        d.due("whom(-1)", x.whom(-1), OUTSIDE);
        d.due("whom(6)", x.whom(6), OUTSIDE);
        Due.anew(x, "CK-ab9-");
        d.due("the only one", x.whom(1), 0);
        d.due("nothing to gain of no words", x.whom(0), NONE);
        Due.anew(x, "CKa--9-");
        d.due("he has nothing to reform", x.whom(2), NONE);
        Due.anew(x, "CK-ab9-K-ab9-");
        d.due("of like ones the least", x.whom(3), 0);
        Due.anew(x, "CKaab9-K-ab9-");
        d.due("what he drops he never writes for", x.whom(3), 1);
        Due.anew(x, "CK-ab0-K-ab9-");
        d.due("who makes it least", x.whom(5), 1);
        Due.anew(x, "CK-ab9-K---9-");
        d.due("blind no more anyway", x.whom(5), NONE);
        Due.anew(x, "CK-ab9-K-cd90");
        d.due("whom the other one copies", x.whom(1), 0);
        Due.anew(x, "CK---0-K-cd00K-ab9-");
        d.due("the third, as the second sees too little", x.whom(2), 2);
        d.due("habits stay", x.clerk(2, 1), 0);
        d.due("habits stay", x.clerk(2, 2), 1);
        d.due("no act", x.count(3), 0);
    }

    private static void lost(ShorthandCourt x, int tenths, int above, int below) {
        d.due("lost(" + tenths + ", true)", x.lost(tenths, true), above);
        d.due("lost(" + tenths + ", false)", x.lost(tenths, false), below);
    }

    private static void promise29() {
        ShorthandCourt x = new ShorthandCourt();
        lost(x, 10, 1, 1);
        lost(x, 0, 1, 1);
        x.speak(0);
        lost(x, 0, 0, 1);
        Due.anew(x, "CK---9-");
        lost(x, 10, 1, 1);
        x.speak(0);
        lost(x, 0, 1, 1);
        lost(x, 10, 0, 1);
        lost(x, 3, 7, 10);
        lost(x, 5, 1, 2);
        lost(x, -1, OUTSIDE, OUTSIDE);
        lost(x, 11, OUTSIDE, OUTSIDE);
        Due.speak(x, "bcda");
        lost(x, 4, 3, 5);
        x.speak(0);
        lost(x, 4, STATE, STATE);
        lost(x, 11, OUTSIDE, OUTSIDE);
        Due.anew(x, "CK---9-K---9-");
        Due.speak(x, "ab");
        lost(x, 3, 91, 100);
        // The first can't tell a from b; the second can, and copies nobody.
        Due.anew(x, "CK-ab9-K---9-");
        x.speak(1);
        lost(x, 1, 9, 10);
        x.strike();
        x.speak(2);
        lost(x, 1, 99, 100);
        x.seat(1, 0);
        lost(x, 1, 99, 100);
        // a b c d are written bbcd, accd, abdd: b is told by the first and the second, or by the third.
        Due.anew(x, "CK-ab9-K-bc9-K-cd9-");
        x.speak(1);
        lost(x, 2, 116, 125);
        Due.anew(x, "CK---9-K---9-K---9-K---9-");
        x.speak(3);
        lost(x, 9, 3439, 10000);
    }

    private static void promise30() {
        ShorthandCourt x = new ShorthandCourt();
        d.due("seed", x.seed(Long.MIN_VALUE), 0);
        d.due("seed", x.seed(Long.MAX_VALUE), Long.MIN_VALUE);
        d.due("seed", x.seed(-1), Long.MAX_VALUE);
        d.due("seed", x.seed(0), -1);
        x.seed(99);
        Due.anew(x, "CK---9-");
        d.due("it stays with a court anew", x.seed(1), 99);
    }

    private static void promise31() {
        long times = 6364136223846793005L;
        long and = 1442695040888963407L;
        ShorthandCourt x = Due.court("CK---9-Ka--9-");
        Due.speak(x, "ab");
        x.keep(0);
        x.seed(42);
        int[][] wrong = {{0, 1}, {31, 1}, {1, 0}, {1, 7}, {-1, 3}, {3, -1}, {Integer.MAX_VALUE, 3}};
        for (int[] w : wrong) {
            d.due("days(" + w[0] + ", " + w[1] + ")", x.days(w[0], w[1]), OUTSIDE);
        }
        d.due("the seed of refused ones", x.seed(42), 42);
        long seed = 42;
        for (int m = 1; m <= 30; m += 29) {
            for (int n = 1; n <= 6; n++) {
                int words = 0;
                for (int i = 0; i < m * n; i++) {
                    seed = seed * times + and;
                    words += Long.remainderUnsigned(seed >>> 33, 4) == 0 ? 1 : 2;
                }
                d.due("days(" + m + ", " + n + ")", x.days(m, n), words);
            }
        }
        d.due("the seed goes on", x.seed(0), seed);
        d.same("the trial stays", Due.trial(x), "ab");
        d.due("acts stay", x.count(3), 2);
        ShorthandCourt none = new ShorthandCourt();
        d.due("no clerks", none.days(2, 3), 0);
        d.due("the seed moves all the same", none.seed(0) == 0 ? 0 : 1, 1);
        ShorthandCourt tired = Due.court("CK---0-K---9-K---11");
        d.due("who tires", tired.days(30, 6), 30 * (3 + 6 + 4));
    }
}
