/** Promises 9 to 13: acts. */
public final class ActsTest {
    private static final int UNKNOWN = -1, OUTSIDE = -2, STATE = -3, FULL = -4, NONE = -9;
    private static final Due d = new Due("ActsTest");

    public static void main(String[] args) {
        promise9();
        promise10();
        promise11();
        promise12();
        promise12Pages();
        promise13();
        promise13Forgets();
        promise13Mixed();
        d.end();
    }

    private static void promise9() {
        ShorthandCourt x = new ShorthandCourt();
        d.due("speak(-1)", x.speak(-1), OUTSIDE);
        d.due("speak(4)", x.speak(4), OUTSIDE);
        d.due("speak(NONE)", x.speak(NONE), OUTSIDE);
        d.due("speak(MAX)", x.speak(Integer.MAX_VALUE), OUTSIDE);
        d.due("no acts of refused ones", x.count(3), 0);
        for (int i = 0; i < 6; i++) {
            d.due("speak " + i, x.speak(i % 4), i + 1);
        }
        d.due("a seventh", x.speak(0), FULL);
        d.due("a seventh, no word", x.speak(4), OUTSIDE);
        d.due("acts", x.count(3), 6);
        d.same("the trial", Due.trial(x), "abcdab");
    }

    private static void promise10() {
        ShorthandCourt x = new ShorthandCourt();
        d.due("strike of none", x.strike(), STATE);
        d.due("no act", x.count(3), 0);
        Due.speak(x, "adb");
        d.due("strike", x.strike(), 1);
        d.due("strike", x.strike(), 3);
        d.due("strike", x.strike(), 0);
        d.due("strike of none", x.strike(), STATE);
        d.due("acts", x.count(3), 6);
        d.due("words", x.count(2), 0);
    }

    private static void promise11() {
        ShorthandCourt x = Due.court("CK-da9-K---9-Kabc91");
        Due.speak(x, "dad");
        d.same("page ahead of it", Due.page(x, 0), "aaa");
        d.due("reform(0)", x.reform(0), 3);
        d.same("page behind it", Due.page(x, 0), "dad");
        d.due("FROM", x.clerk(0, 1), NONE);
        d.due("TO", x.clerk(0, 2), NONE);
        d.due("reform(0) again", x.reform(0), STATE);
        d.due("reform(1)", x.reform(1), STATE);
        d.due("reform(2)", x.reform(2), 1);
        d.due("DROPS stays", x.clerk(2, 0), 0);
        d.due("COPIES stays", x.clerk(2, 4), 1);
        d.due("reform(3)", x.reform(3), UNKNOWN);
        d.due("reform(-1)", x.reform(-1), UNKNOWN);
        d.due("reform(NONE)", x.reform(NONE), UNKNOWN);
        d.due("acts", x.count(3), 5);
    }

    private static void promise12() {
        ShorthandCourt x = Due.court("CK---9-K---90K---91");
        d.due("seat(3, 0)", x.seat(3, 0), UNKNOWN);
        d.due("seat(-1, -1)", x.seat(-1, -1), UNKNOWN);
        d.due("seat(3, 9)", x.seat(3, 9), UNKNOWN);
        d.due("seat(2, 2)", x.seat(2, 2), OUTSIDE);
        d.due("seat(2, 3)", x.seat(2, 3), OUTSIDE);
        d.due("seat(2, -1)", x.seat(2, -1), OUTSIDE);
        d.due("seat(0, 0)", x.seat(0, 0), OUTSIDE);
        d.due("seat(0, 1)", x.seat(0, 1), OUTSIDE);
        d.due("seat(2, MAX)", x.seat(2, Integer.MAX_VALUE), OUTSIDE);
        d.due("seat(2, MIN)", x.seat(2, Integer.MIN_VALUE), OUTSIDE);
        d.due("seat(0, NONE)", x.seat(0, NONE), STATE);
        d.due("seat(1, 0)", x.seat(1, 0), STATE);
        d.due("seat(2, 1)", x.seat(2, 1), STATE);
        d.due("no acts of refused ones", x.count(3), 0);
        d.due("seat(2, 0)", x.seat(2, 0), 1);
        d.due("COPIES", x.clerk(2, 4), 0);
        d.due("seat(2, NONE)", x.seat(2, NONE), 0);
        d.due("COPIES", x.clerk(2, 4), NONE);
        d.due("seat(2, NONE) again", x.seat(2, NONE), STATE);
        d.due("seat(2, 1)", x.seat(2, 1), NONE);
        d.due("seat(1, NONE)", x.seat(1, NONE), 0);
        d.due("acts", x.count(3), 4);
    }

    private static void promise12Pages() {
        ShorthandCourt x = Due.court("CKa--9-Kb--9-K---9-");
        Due.speak(x, "abcab");
        d.same("copying nobody", Due.page(x, 2), "abcab");
        x.seat(2, 0);
        d.same("copying the first", Due.page(x, 2), "bcb");
        x.seat(2, 1);
        d.same("copying the second", Due.page(x, 2), "aca");
        x.seat(1, 0);
        d.same("the second copies the first", Due.page(x, 2), "c");
        x.seat(2, NONE);
        d.same("copying nobody again", Due.page(x, 2), "abcab");
    }

    private static void promise13() {
        ShorthandCourt x = Due.court("CK-da9-K---90");
        d.due("undo of none", x.undo(), STATE);
        x.speak(3);
        x.strike();
        x.reform(0);
        x.seat(1, NONE);
        d.due("acts", x.count(3), 4);
        d.due("undo seat", x.undo(), 3);
        d.due("COPIES", x.clerk(1, 4), 0);
        d.due("undo reform", x.undo(), 2);
        d.due("FROM", x.clerk(0, 1), 3);
        d.due("TO", x.clerk(0, 2), 0);
        d.due("undo strike", x.undo(), 1);
        d.due("the word is back", x.trial(0), 3);
        d.due("undo speak", x.undo(), 0);
        d.due("words", x.count(2), 0);
        d.due("undo of none", x.undo(), STATE);
        d.due("an undone act is no act", x.count(3), 0);
    }

    private static void promise13Forgets() {
        ShorthandCourt x = new ShorthandCourt();
        Due.speak(x, "abcdab");
        for (int i = 0; i < 5; i++) {
            x.strike();
            x.speak(3);
        }
        d.due("16 acts", x.count(3), 16);
        x.strike();
        d.due("a seventeenth", x.count(3), 16);
        x.strike();
        d.due("an eighteenth", x.count(3), 16);
        for (int left = 15; left >= 0; left--) {
            d.due("undo", x.undo(), left);
        }
        d.due("all undone that is not forgotten", x.undo(), STATE);
        d.same("two words stay", Due.trial(x), "ab");
    }

    /** A court of four with so many acts of all kinds, of which the last ones are undone again. */
    private static ShorthandCourt mixed(int acts, int undone) {
        ShorthandCourt x = Due.court("CKabc2-Kbda30K-cb11Kd--02");
        Due.tell(x, 2, "abc");
        for (int i = 0; i < acts; i++) {
            if (i == 3 || i == 8) {
                x.strike();
            } else if (i == 4) {
                x.reform(1);
            } else if (i == 6) {
                x.seat(3, 0);
            } else if (i == 9) {
                x.reform(0);
            } else if (i == 10) {
                x.seat(2, NONE);
            } else {
                x.speak(i * 7 % 4);
            }
        }
        for (int left = acts - 1; left >= acts - undone; left--) {
            d.due("undo", x.undo(), left);
        }
        return x;
    }

    private static void promise13Mixed() {
        for (int left = 0; left <= 13; left++) {
            ShorthandCourt x = mixed(13, 13 - left);
            d.due("acts", x.count(3), left);
            d.due("told pages stay", x.clerk(2, 6), 3);
            d.same("state with " + left + " acts", Due.shown(x), Due.shown(mixed(left, 0)));
        }
    }
}
