/** The edges that promises 9 to 13 and the acts of 'Terms' name, sentence by sentence. */
public final class EdgesActsTest {
    private static final int UNKNOWN = -1, OUTSIDE = -2, STATE = -3, FULL = -4, NONE = -9;
    private static final String FOUR = "CK-ab9-K-da90K-bc91Kabd92";
    private static final Due d = new Due("EdgesActsTest");

    public static void main(String[] args) {
        wordsSpoken();
        trialFull();
        struck();
        reformed();
        reformRefused();
        seated();
        seatRefused();
        undone();
        undoRefused();
        sixteenActs();
        firstForgotten();
        rowGoesRound();
        roomAfterUndo();
        fourKindsAlone();
        d.end();
    }

    private static ShorthandCourt spoken(String words) {
        ShorthandCourt x = new ShorthandCourt();
        Due.speak(x, words);
        return x;
    }

    private static void wordsSpoken() {
        d.sentence("WORDS are 0 to 3 (letters a to d).");
        d.taken("speak", ShorthandCourt::new, ShorthandCourt::speak, 0, 3, OUTSIDE);

        d.sentence("SPOKEN: a WORD comes behind THE TRIAL.");
        ShorthandCourt x = new ShorthandCourt();
        for (int word = 0; word < 4; word++) {
            d.due("speak(" + word + ")", x.speak(word), word + 1);
            d.due("it is the last one", x.trial(word), word);
            d.due("the first one stays", x.trial(0), 0);
        }
    }

    private static void trialFull() {
        d.sentence("THE TRIAL is a row of WORDS (6 at most).");
        ShorthandCourt x = spoken("dcbad");
        d.due("a sixth", x.speak(2), 6);
        d.due("words", x.count(2), 6);
        d.same("trial", Due.trial(x), "dcbadc");

        d.sentence("SPOKEN: WORDS of THE TRIAL. OUTSIDE: word; FULL: 6.");
        d.due("with 5", spoken("aaaaa").speak(0), 6);
        d.due("with 6", x.speak(0), FULL);
        d.due("with 6, and no word", x.speak(4), OUTSIDE);
        d.due("with 6, and no word", x.speak(-1), OUTSIDE);
        d.same("trial", Due.trial(x), "dcbadc");
        d.due("acts", x.count(3), 6);
        x.strike();
        d.due("there is room again", x.speak(3), 6);
        d.due("and no more", x.speak(3), FULL);
        x.undo();
        x.undo();
        d.same("undone", Due.trial(x), "dcbadc");
        d.due("full again", x.speak(3), FULL);
    }

    private static void struck() {
        d.sentence("STRUCK: its last WORD is gone.");
        ShorthandCourt x = spoken("dacbad");
        int[] due = {3, 0, 1, 2, 0, 3};
        for (int i = 0; i < 6; i++) {
            d.due("strike()", x.strike(), due[i]);
            d.same("trial", Due.trial(x), "dacbad".substring(0, 5 - i));
        }

        d.sentence("STRUCK: the WORD. STATE: there is none.");
        d.due("of none at first", new ShorthandCourt().strike(), STATE);
        d.due("of one", spoken("a").strike(), 0);
        d.due("of none, when all are struck", x.strike(), STATE);
        d.due("it is no act", x.count(3), 12);
        d.due("words", x.count(2), 0);
        ShorthandCourt y = spoken("a");
        y.undo();
        d.due("of none, when all is undone", y.strike(), STATE);
    }

    private static void reformed() {
        d.sentence("REFORMED: a CLERK has FROM (and TO) no more.");
        int[] from = {0, 3, 1, 1};
        for (int clerk = 0; clerk < 4; clerk++) {
            ShorthandCourt x = Due.court(FOUR);
            d.due("reform(" + clerk + ")", x.reform(clerk), from[clerk]);
            for (int other = 0; other < 4; other++) {
                d.due("FROM of " + other, x.clerk(other, 1), other == clerk ? NONE : from[other]);
                d.due("TO of " + other, x.clerk(other, 2), other == clerk ? NONE : new int[] {1, 0, 2, 3}[other]);
            }
            d.due("TIRES stays", x.clerk(clerk, 3), 9);
            d.due("COPIES stays", x.clerk(clerk, 4), clerk == 0 ? NONE : clerk - 1);
            d.due("DROPS stays", x.clerk(clerk, 0), clerk == 3 ? 0 : NONE);
        }
        ShorthandCourt y = Due.court("CK-ab9-K-ba90");
        Due.speak(y, "ab");
        y.reform(1);
        d.same("pages as they come to be", Due.page(y, 1), "bb");
        y.reform(0);
        d.same("and those that copy them", Due.page(y, 1), "ab");
    }

    private static void reformRefused() {
        d.sentence("REFORMED: what FROM was. UNKNOWN; STATE: it is none.");
        d.taken("reform", () -> Due.court(FOUR), ShorthandCourt::reform, 0, 3, UNKNOWN);
        d.taken("of none", ShorthandCourt::new, ShorthandCourt::reform, 0, -1, UNKNOWN);
        d.due("none at first", Due.court("CK---9-").reform(0), STATE);
        d.due("though he drops", Due.court("CKa--9-").reform(0), STATE);
        ShorthandCourt x = Due.court(FOUR);
        x.reform(0);
        d.due("reformed twice", x.reform(0), STATE);
        d.due("one act", x.count(3), 1);
        x.undo();
        d.due("undone, and reformed once more", x.reform(0), 0);
    }

    private static void seated() {
        d.sentence("SEATED: a CLERK COPIES another one of lesser number (or nobody).");
        ShorthandCourt x = Due.court("CKa--9-Kb--9-Kc--9-K---9-");
        Due.speak(x, "abcd");
        String[] pages = {"bcd", "acd", "abd"};
        for (int other = 0; other < 3; other++) {
            d.due("seat(3, " + other + ")", x.seat(3, other), other == 0 ? NONE : other - 1);
            d.due("COPIES", x.clerk(3, 4), other);
            d.same("page", Due.page(x, 3), pages[other]);
        }
        d.due("seat(3, NONE)", x.seat(3, NONE), 2);
        d.due("COPIES", x.clerk(3, 4), NONE);
        d.same("page", Due.page(x, 3), "abcd");
        d.due("the others stay", x.clerk(2, 4) + x.clerk(1, 4) + x.clerk(0, 4), 3 * NONE);
    }

    private static void seatRefused() {
        d.sentence("SEATED (other is NONE: he COPIES nobody): whom he COPIED; NONE.");
        d.due("he copied 0", Due.court(FOUR).seat(1, NONE), 0);
        d.due("he copied 2", Due.court(FOUR).seat(3, NONE), 2);
        ShorthandCourt x = Due.court(FOUR);
        x.seat(1, NONE);
        d.due("he copied nobody", x.seat(1, 0), NONE);

        d.sentence("UNKNOWN: clerk; OUTSIDE: other (one of lesser number, NONE); STATE: it is so.");
        Due.Made nobody = () -> Due.court("CK---9-K---9-K---9-K---9-");
        for (int clerk = 1; clerk < 4; clerk++) {
            d.due("seat(" + clerk + ", 0)", nobody.now().seat(clerk, 0), NONE);
        }
        d.refused("seat(clerk, 0)", nobody, (y, clerk) -> y.seat(clerk, 0), UNKNOWN, -1, 4, NONE, 260, -252, 65540,
            Integer.MIN_VALUE, Integer.MAX_VALUE);
        d.refused("no clerks", ShorthandCourt::new, (y, clerk) -> y.seat(clerk, NONE), UNKNOWN, 0, -1, 1, NONE);
        for (int clerk = 0; clerk < 4; clerk++) {
            int number = clerk;
            d.taken("seat(" + clerk + ", other)", nobody, (y, other) -> y.seat(number, other), 0, clerk - 1, OUTSIDE);
            d.refused("near NONE", nobody, (y, other) -> y.seat(number, other), OUTSIDE, -1, -2, -3, -4, -8, -10);
            d.due("nobody already", nobody.now().seat(number, NONE), STATE);
        }
        for (int clerk = 1; clerk < 4; clerk++) {
            d.due("it is so", Due.court(FOUR).seat(clerk, clerk - 1), STATE);
        }
        d.due("seat(4, 9)", Due.court(FOUR).seat(4, 9), UNKNOWN);
        ShorthandCourt z = nobody.now();
        z.seat(3, 0);
        d.due("it is so by now", z.seat(3, 0), STATE);
        d.due("one act", z.count(3), 1);
        z.undo();
        d.due("it is no more", z.seat(3, 0), NONE);
    }

    private static void undone() {
        d.sentence("the last one can be undone.");
        ShorthandCourt x = Due.court("CK-da9-K---90K---9-");
        Due.speak(x, "bd");
        x.undo();
        d.same("a word spoken", Due.trial(x), "b");
        x.strike();
        x.undo();
        d.same("a word struck", Due.trial(x), "b");
        x.reform(0);
        x.undo();
        d.due("FROM", x.clerk(0, 1), 3);
        d.due("TO", x.clerk(0, 2), 0);
        x.seat(1, NONE);
        x.undo();
        d.due("seated to nobody", x.clerk(1, 4), 0);
        x.seat(2, 1);
        x.seat(2, 0);
        x.undo();
        d.due("seated from one to another", x.clerk(2, 4), 1);
        x.undo();
        d.due("seated from nobody", x.clerk(2, 4), NONE);
        d.due("all as ahead of them", x.count(3), 1);
        d.same("pages too", Due.page(x, 0) + Due.page(x, 1) + Due.page(x, 2), "bbb");
    }

    private static void undoRefused() {
        d.sentence("The last ACT is undone: how many are left. STATE: there is none.");
        d.due("at first", new ShorthandCourt().undo(), STATE);
        ShorthandCourt x = spoken("abc");
        for (int left = 2; left >= 0; left--) {
            d.due("undo()", x.undo(), left);
            d.due("words", x.count(2), left);
            d.due("acts", x.count(3), left);
        }
        d.due("all undone", x.undo(), STATE);
        d.due("an undone act does not come back", x.undo(), STATE);
        d.due("words", x.count(2), 0);
        ShorthandCourt y = Due.court(FOUR);
        y.speak(0);
        y.court();
        d.due("a court anew", y.undo(), STATE);
        y.speak(0);
        y.keep(0);
        y.again(0);
        d.due("gone on from a slot", y.undo(), STATE);
    }

    /** So many acts: a word spoken, then struck and spoken in turn. */
    private static ShorthandCourt afterActs(int acts) {
        ShorthandCourt x = spoken("a");
        for (int act = 1; act < acts; act++) {
            if (act % 2 == 1) {
                x.strike();
            } else {
                x.speak(act / 2 % 4);
            }
        }
        return x;
    }

    private static void sixteenActs() {
        d.sentence("ACTS (these four) are a row (16 at most; of more the first one is forgotten)");
        for (int acts = 1; acts <= 40; acts++) {
            d.due("of " + acts, afterActs(acts).count(3), Math.min(acts, 16));
        }
        for (int acts = 15; acts <= 18; acts++) {
            ShorthandCourt x = afterActs(acts);
            int held = Math.min(acts, 16);
            for (int left = held - 1; left >= 0; left--) {
                d.due("undo() of " + acts, x.undo(), left);
            }
            d.due("no more of " + acts, x.undo(), STATE);
            d.due("words, of " + acts, x.count(2), acts == 17 ? 1 : 0);
        }
    }

    /** Sixteen acts that leave the habits as they are. */
    private static void sixteen(ShorthandCourt x) {
        for (int i = 0; i < 8; i++) {
            x.speak(2);
            x.strike();
        }
    }

    private static void undoAll(ShorthandCourt x) {
        for (int i = 0; i < 16; i++) {
            x.undo();
        }
        d.due("nothing is left to undo", x.undo(), STATE);
    }

    private static void firstForgotten() {
        d.sentence("of more the first one is forgotten");
        ShorthandCourt speaks = Due.court(FOUR);
        speaks.speak(3);
        sixteen(speaks);
        undoAll(speaks);
        d.same("the word spoken stays", Due.trial(speaks), "d");
        ShorthandCourt strikes = Due.court(FOUR);
        strikes.speak(3);
        strikes.strike();
        sixteen(strikes);
        undoAll(strikes);
        d.same("the word struck stays gone", Due.trial(strikes), "");
        ShorthandCourt reforms = Due.court(FOUR);
        reforms.reform(0);
        sixteen(reforms);
        undoAll(reforms);
        d.due("the habit reformed stays gone", reforms.clerk(0, 1), NONE);
        ShorthandCourt seats = Due.court(FOUR);
        seats.seat(3, 0);
        sixteen(seats);
        undoAll(seats);
        d.due("the one seated stays there", seats.clerk(3, 4), 0);
        ShorthandCourt held = Due.court(FOUR);
        held.speak(3);
        held.reform(0);
        held.seat(3, 0);
        for (int i = 0; i < 7; i++) {
            held.speak(2);
            held.strike();
        }
        undoAll(held);
        d.due("but the second one is not: FROM", held.clerk(0, 1), 0);
        d.due("COPIES", held.clerk(3, 4), 2);
        d.same("trial", Due.trial(held), "d");
    }

    private static void rowGoesRound() {
        d.sentence("(16 at most; of more the first one is forgotten)");
        // The words 0 1 2 3 0 1 .. at the first place tell which act was the last one.
        ShorthandCourt x = spoken("a");
        for (int round = 1; round <= 50; round++) {
            x.strike();
            x.speak(round % 4);
        }
        for (int round = 50; round > 42; round--) {
            d.due("the word of round " + round, x.trial(0), round % 4);
            d.due("undo()", x.undo(), 2 * (round - 43) + 1);
            d.due("struck then", x.count(2), 0);
            d.due("undo()", x.undo(), 2 * (round - 43));
        }
        d.due("the word of round 42", x.trial(0), 42 % 4);
        d.due("undo()", x.undo(), STATE);
    }

    private static void roomAfterUndo() {
        d.sentence("ACTS (these four) are a row (16 at most");
        ShorthandCourt x = afterActs(16);
        x.undo();
        x.undo();
        d.due("two undone", x.count(3), 14);
        x.speak(1);
        x.strike();
        d.due("two more", x.count(3), 16);
        for (int left = 15; left >= 0; left--) {
            d.due("undo()", x.undo(), left);
        }
        d.due("none was forgotten", x.count(2), 0);
        d.due("undo()", x.undo(), STATE);
    }

    private static void fourKindsAlone() {
        d.sentence("ACTS (these four)");
        ShorthandCourt x = Due.court(FOUR);
        d.due("a court", x.count(3), 0);
        x.speak(0);
        d.due("speak", x.count(3), 1);
        x.strike();
        d.due("strike", x.count(3), 2);
        x.reform(0);
        d.due("reform", x.count(3), 3);
        x.seat(3, NONE);
        d.due("seat", x.count(3), 4);
        x.open(0);
        x.tell(0, 1);
        x.open(1);
        x.untell(1);
        d.due("told pages", x.count(3), 4);
        x.days(2, 2);
        x.seed(5);
        d.due("the seed", x.count(3), 4);
        x.keep(0);
        d.due("keep", x.count(3), 4);
        x.write('C');
        x.wipe();
        d.due("the text", x.count(3), 4);
        x.whom(3);
        x.lost(5, true);
        x.fits(3);
        d.due("questions", x.count(3), 4);
        d.due("so the seat is undone, not they", x.undo(), 3);
        d.due("COPIES", x.clerk(3, 4), 2);
        d.due("a told page is not undone", x.clerk(0, 6), 1);
        d.due("nor the seed", x.seed(0), 5);
    }
}
