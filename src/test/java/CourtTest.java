/** Promises 1 to 8: the court. */
public final class CourtTest {
    private static final int UNKNOWN = -1, OUTSIDE = -2, STATE = -3, FULL = -4, NONE = -9;
    private static final Due d = new Due("CourtTest");

    public static void main(String[] args) {
        promise1();
        promise2();
        promise3();
        promise4();
        promise5();
        promise5Clears();
        promise6();
        promise7();
        promise8();
        d.end();
    }

    private static void promise1() {
        ShorthandCourt x = new ShorthandCourt();
        for (int what = 0; what < 6; what++) {
            d.due("new: count(" + what + ")", x.count(what), 0);
        }
        d.due("new: trial(0)", x.trial(0), NONE);
        d.due("new: undo", x.undo(), STATE);
        d.due("new: strike", x.strike(), STATE);
        d.due("new: fault", x.fault(), 0);
        d.due("new: court of no text", x.court(), STATE);
        d.due("new: clerk(0, 0)", x.clerk(0, 0), UNKNOWN);
        d.due("new: seed", x.seed(7), 0);
        d.due("new: again(0)", x.again(0), STATE);
        d.due("new: again(1)", x.again(1), STATE);
        d.due("new: speak", x.speak(3), 1);
        ShorthandCourt y = new ShorthandCourt();
        d.due("another new one: count(2)", y.count(2), 0);
        d.due("UNKNOWN", ShorthandCourt.UNKNOWN, UNKNOWN);
        d.due("OUTSIDE", ShorthandCourt.OUTSIDE, OUTSIDE);
        d.due("STATE", ShorthandCourt.STATE, STATE);
        d.due("FULL", ShorthandCourt.FULL, FULL);
        d.due("NONE", ShorthandCourt.NONE, NONE);
    }

    private static void promise2() {
        ShorthandCourt x = new ShorthandCourt();
        d.due("write(-1)", x.write(-1), OUTSIDE);
        d.due("write(256)", x.write(256), OUTSIDE);
        d.due("write(MIN)", x.write(Integer.MIN_VALUE), OUTSIDE);
        d.due("write(MAX)", x.write(Integer.MAX_VALUE), OUTSIDE);
        d.due("refused letters", x.count(0), 0);
        for (int i = 1; i <= 32; i++) {
            d.due("letter " + i, x.write(i % 2 == 0 ? 0 : 255), i);
        }
        d.due("letter 33", x.write(67), FULL);
        d.due("letter 33, no letter", x.write(256), OUTSIDE);
        d.due("letters", x.count(0), 32);
    }

    private static void promise3() {
        ShorthandCourt x = Due.court("CK---9-");
        d.due("wipe", x.wipe(), 7);
        d.due("wipe again", x.wipe(), 0);
        d.due("letters", x.count(0), 0);
        d.due("the court stays", x.count(1), 1);
        Due.write(x, "C");
        d.due("a text anew", x.count(0), 1);
        d.due("its fault", x.fault(), NONE);
    }

    private static void promise4() {
        String[] texts = {
            "", "C", "c", "K", "CC", "CK", "CK-", "CK--", "CK---", "CK---0", "CK---0-", "CKa", "CKd", "CKe", "CK`",
            "CKK", "CK-a", "CK-d", "CK-e", "CK-`", "CK-aa", "CK-ab", "CK-ba", "CK-dd", "CK-de", "CK-d-", "CK--a",
            "CK-ab9", "CK-ab:", "CK-ab/", "CK-ab-", "CK---90", "CK---9-K---90", "CK---9-K---91", "CK---9-K---9/",
            "CK---9-K---9-K---91", "CK---9-K---9-K---92", "CK---9-K---9-K---9-K---92", "CK---9-K---9-K---9-K---93",
            "CK---9-K---9-K---9-K---9-", "CK---9-K---9-K---9-K---9-K", "CK---9-K---9-K---9-K---9-C", "CK---9-C",
            "CK---9-k", "XCK---9-", "CKee", "CK---9-K---9-K---9-K---9-K---9-K"};
        int[] faults = {
            0, NONE, 0, 0, 1, 2, 3, 4, 5, 6, NONE, 3, 3, 2, 2,
            2, 4, 4, 3, 3, 4, 5, 5, 4, 4, 4, 4,
            6, 5, 5, 5, 6, NONE, 12, 12,
            NONE, 18, NONE, 24,
            NONE, 25, 25, 7,
            7, 0, 2, 25};
        for (int i = 0; i < texts.length; i++) {
            ShorthandCourt x = new ShorthandCourt();
            Due.write(x, texts[i]);
            d.due("fault of " + texts[i], x.fault(), faults[i]);
            d.due("letters stay of " + texts[i], x.count(0), texts[i].length());
            int clerks = texts[i].length() / 6;
            d.due("court of " + texts[i], x.court(), faults[i] == NONE ? clerks : STATE);
            d.due("fault of " + texts[i] + ", asked again", x.fault(), faults[i]);
        }
    }

    private static void promise5() {
        ShorthandCourt x = Due.court("CK---9-Kabc20");
        Due.speak(x, "abca");
        x.keep(1);
        Due.tell(x, 1, "c");
        x.seed(11);
        String before = Due.shown(x);
        x.wipe();
        Due.write(x, "CK---90");
        d.due("court with a fault", x.court(), STATE);
        x.wipe();
        Due.write(x, "CK---9");
        d.due("court not at its end", x.court(), STATE);
        x.wipe();
        Due.write(x, "CK---9-Kabc20");
        d.same("state after refused courts", Due.shown(x), before);
        d.due("what was kept is there", x.again(1), 4);
    }

    private static void promise5Clears() {
        ShorthandCourt x = Due.court("CK---9-Kabc20");
        Due.speak(x, "abca");
        x.keep(0);
        x.keep(1);
        Due.tell(x, 1, "c");
        x.seed(11);
        x.reform(1);
        d.due("the same court anew", x.court(), 2);
        d.due("letters stay", x.count(0), 13);
        d.due("nothing spoken", x.count(2), 0);
        d.due("no acts", x.count(3), 0);
        d.due("none told", x.count(4), 0);
        d.due("no words", x.count(5), 0);
        d.due("FROM is as the text tells", x.clerk(1, 1), 1);
        d.due("slot 0", x.again(0), STATE);
        d.due("slot 1", x.again(1), STATE);
        d.due("undo", x.undo(), STATE);
        d.due("seed", x.seed(0), 11);
        d.due("a court of none", Due.anew(x, "C"), 0);
        d.due("clerk(0, 0)", x.clerk(0, 0), UNKNOWN);
        d.due("four clerks", Due.anew(x, "CKa--0-Kb--1-Kc--2-Kd--3-"), 4);
        d.due("one clerk", Due.anew(x, "CKd--3-"), 1);
        d.due("the clerk is the new one", x.clerk(0, 0), 3);
        d.due("clerk(1, 0)", x.clerk(1, 0), UNKNOWN);
    }

    private static void promise6() {
        ShorthandCourt x = Due.court("CKadb0-K---90Kdca51");
        Due.speak(x, "dbdc");
        Due.tell(x, 1, "ab");
        x.open(2);
        long[][] want = {
            {0, 3, 1, 0, NONE, 2, NONE},
            {NONE, NONE, NONE, 9, 0, 2, 2},
            {3, 2, 0, 5, 1, 2, 0}};
        for (int clerk = 0; clerk < 3; clerk++) {
            for (int what = 0; what < 7; what++) {
                d.due("clerk(" + clerk + ", " + what + ")", x.clerk(clerk, what), want[clerk][what]);
            }
            d.due("what = -1", x.clerk(clerk, -1), OUTSIDE);
            d.due("what = 7", x.clerk(clerk, 7), OUTSIDE);
            d.due("what = MAX", x.clerk(clerk, Integer.MAX_VALUE), OUTSIDE);
        }
        d.due("clerk(3, 0)", x.clerk(3, 0), UNKNOWN);
        d.due("clerk(-1, 0)", x.clerk(-1, 0), UNKNOWN);
        d.due("clerk(3, 7)", x.clerk(3, 7), UNKNOWN);
        d.due("clerk(MIN, 7)", x.clerk(Integer.MIN_VALUE, 7), UNKNOWN);
    }

    private static void promise7() {
        // What he drops is what he hears, not what he would write: aab9- drops a, bab9- writes b for a.
        String[][] pages = {
            {"---9-", "abcdab"}, {"a--9-", "bcdb"}, {"-ab9-", "bbcdbb"}, {"aab9-", "bcdb"}, {"bab9-", "bcdb"},
            {"---0-", "aca"}, {"---1-", "abdb"}, {"---2-", "abca"}, {"---3-", "abcdb"}, {"---4-", "abcda"},
            {"---5-", "abcdab"}, {"dcd0-", "ada"}};
        for (String[] one : pages) {
            ShorthandCourt x = Due.court("CK" + one[0]);
            Due.speak(x, "abcdab");
            d.same("page of " + one[0], Due.page(x, 0), one[1]);
        }
        ShorthandCourt x = Due.court("CKa--9-K-bc00K---11");
        Due.speak(x, "babacb");
        d.same("page of the first", Due.page(x, 0), "bbcb");
        d.same("page of one who copies him", Due.page(x, 1), "cc");
        d.same("page of one who copies that one", Due.page(x, 2), "cc");
        d.due("page(0, 3)", x.page(0, 3), 1);
        d.due("page(0, 4)", x.page(0, 4), NONE);
        d.due("page(0, -1)", x.page(0, -1), NONE);
        d.due("page(0, MAX)", x.page(0, Integer.MAX_VALUE), NONE);
        d.due("page(0, MIN)", x.page(0, Integer.MIN_VALUE), NONE);
        d.due("page(3, 0)", x.page(3, 0), UNKNOWN);
        d.due("page(-1, -1)", x.page(-1, -1), UNKNOWN);
    }

    private static void promise8() {
        ShorthandCourt x = new ShorthandCourt();
        Due.speak(x, "dcbaad");
        int[] want = {3, 2, 1, 0, 0, 3};
        for (int place = 0; place < 6; place++) {
            d.due("trial(" + place + ")", x.trial(place), want[place]);
        }
        d.due("trial(6)", x.trial(6), NONE);
        d.due("trial(-1)", x.trial(-1), NONE);
        d.due("trial(MAX)", x.trial(Integer.MAX_VALUE), NONE);
        d.due("trial(MIN)", x.trial(Integer.MIN_VALUE), NONE);
        x.strike();
        d.due("trial(5), struck", x.trial(5), NONE);
    }
}
