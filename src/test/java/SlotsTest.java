/** Promises 32 to 34: slots, counts. */
public final class SlotsTest {
    private static final int UNKNOWN = -1, OUTSIDE = -2, STATE = -3, NONE = -9;
    private static final Due d = new Due("SlotsTest");

    public static void main(String[] args) {
        promise32();
        promise33();
        promise33Refused();
        promise34();
        d.end();
    }

    private static void promise32() {
        ShorthandCourt x = Due.court("CK---9-");
        d.due("keep(-1)", x.keep(-1), UNKNOWN);
        d.due("keep(2)", x.keep(2), UNKNOWN);
        d.due("keep(MAX)", x.keep(Integer.MAX_VALUE), UNKNOWN);
        d.due("keep(0)", x.keep(0), 0);
        Due.speak(x, "abc");
        d.due("keep(1)", x.keep(1), 3);
        d.due("acts stay", x.count(3), 3);
        d.due("undo", x.undo(), 2);
        d.due("again(0)", x.again(0), 0);
        d.due("again(1)", x.again(1), 3);
        x.speak(3);
        d.due("kept over", x.keep(1), 4);
        x.strike();
        x.strike();
        d.due("again(1)", x.again(1), 4);
        d.same("the trial", Due.trial(x), "abcd");
    }

    private static void promise33() {
        ShorthandCourt x = Due.court("CK-ab9-Kbcd90K---91");
        Due.speak(x, "abc");
        Due.tell(x, 2, "d");
        x.seed(5);
        x.keep(0);
        d.due("again(0) at once", x.again(0), 3);
        d.due("acts behind it", x.count(3), 0);
        String shown = Due.shown(x);
        x.reform(0);
        x.reform(1);
        x.seat(1, NONE);
        x.seat(2, 0);
        x.strike();
        x.speak(3);
        x.speak(3);
        Due.tell(x, 0, "ab");
        x.seed(6);
        d.due("acts", x.count(3), 7);
        d.due("again(0)", x.again(0), 3);
        d.due("acts behind it", x.count(3), 0);
        d.due("undo", x.undo(), STATE);
        d.due("told pages are not kept", x.count(4), 5);
        d.due("nor is the seed", x.seed(5), 6);
        x.untell(0);
        d.same("all else is as it was", Due.shown(x), shown);
        x.strike();
        d.due("again(0), a third time", x.again(0), 3);
        d.due("FROM", x.clerk(1, 1), 2);
        d.due("TO", x.clerk(1, 2), 3);
        d.due("COPIES", x.clerk(2, 4), 1);
    }

    private static void promise33Refused() {
        ShorthandCourt x = Due.court("CK-ab9-");
        x.speak(1);
        x.keep(1);
        x.reform(0);
        String shown = Due.shown(x);
        d.due("again(-1)", x.again(-1), UNKNOWN);
        d.due("again(2)", x.again(2), UNKNOWN);
        d.due("again(MIN)", x.again(Integer.MIN_VALUE), UNKNOWN);
        d.due("again(0)", x.again(0), STATE);
        d.same("nothing is changed", Due.shown(x), shown);
    }

    private static void promise34() {
        ShorthandCourt x = Due.court("CK---9-Ka--9-K---0-");
        Due.speak(x, "abca");
        x.strike();
        x.open(2);
        x.open(0);
        d.due("letters", x.count(0), 19);
        d.due("clerks", x.count(1), 3);
        d.due("words of the trial", x.count(2), 3);
        d.due("acts", x.count(3), 5);
        d.due("told", x.count(4), 5);
        d.due("words of all pages", x.count(5), 7);
        d.due("count(-1)", x.count(-1), OUTSIDE);
        d.due("count(6)", x.count(6), OUTSIDE);
        d.due("count(MAX)", x.count(Integer.MAX_VALUE), OUTSIDE);
        d.due("count(MIN)", x.count(Integer.MIN_VALUE), OUTSIDE);
        x.untell(0);
        d.due("told", x.count(4), 4);
        x.open(1);
        d.due("told", x.count(4), 6);
        x.wipe();
        d.due("letters, wiped", x.count(0), 0);
    }
}
