/** REFUSALS, NONE and FRACTIONS at the head of 'Terms', and how long an object is used: held for every call. */
public final class EdgesRefusalsTest {
    private static final int UNKNOWN = -1, OUTSIDE = -2, STATE = -3, FULL = -4, NONE = -9;
    private static final String FOUR = "CK-ab9-K---9-K-cd10Kbda92";
    private static final Due d = new Due("EdgesRefusalsTest");

    public static void main(String[] args) {
        numbers();
        noSuchClerk();
        noSuchSlot();
        notAsTold();
        firstNamed();
        textUnchanged();
        actsUnchanged();
        toldUnchanged();
        questionsUnchanged();
        slotsUnchanged();
        fullUnchanged();
        fractions();
        fractionsRefused();
        callsOfObject();
        d.end();
    }

    private static void numbers() {
        d.sentence("public static final int UNKNOWN = -1, OUTSIDE = -2, STATE = -3, FULL = -4, NONE = -9;");
        d.due("UNKNOWN", ShorthandCourt.UNKNOWN, -1);
        d.due("OUTSIDE", ShorthandCourt.OUTSIDE, -2);
        d.due("STATE", ShorthandCourt.STATE, -3);
        d.due("FULL", ShorthandCourt.FULL, -4);

        d.sentence("NONE is -9.");
        d.due("NONE", ShorthandCourt.NONE, -9);
        d.due("an answer that is NONE", new ShorthandCourt().trial(0), -9);
    }

    private static final Due.NumberCall[] OF_CLERK = {
        (x, clerk) -> x.clerk(clerk, 0), (x, clerk) -> x.page(clerk, 0), ShorthandCourt::reform,
        (x, clerk) -> x.seat(clerk, NONE), ShorthandCourt::open, (x, clerk) -> x.tell(clerk, 0),
        ShorthandCourt::untell, ShorthandCourt::habits, ShorthandCourt::habit, ShorthandCourt::copied,
        ShorthandCourt::leaves};
    private static final String[] CALLS_OF_CLERK = {"clerk", "page", "reform", "seat", "open", "tell", "untell",
        "habits", "habit", "copied", "leaves"};

    private static void noSuchClerk() {
        d.sentence("UNKNOWN (there is no such CLERK, SLOT)");
        for (int clerks = 0; clerks <= 4; clerks++) {
            int many = clerks;
            for (int i = 0; i < OF_CLERK.length; i++) {
                Due.NumberCall call = OF_CLERK[i];
                String name = CALLS_OF_CLERK[i] + " of " + clerks + " clerks";
                Due.Made made = () -> Due.court(FOUR.substring(0, 1 + 6 * many));
                d.refused(name, made, call, UNKNOWN, clerks, clerks + 1, 5, 256, 65536, -1, -2, NONE, -256,
                    Integer.MIN_VALUE, Integer.MAX_VALUE);
                for (int clerk = 0; clerk < clerks; clerk++) {
                    d.due(name + ": he is known", call.on(made.now(), clerk) == UNKNOWN ? 1 : 0, 0);
                }
            }
        }
    }

    private static void noSuchSlot() {
        d.sentence("there is no such CLERK, SLOT");
        Due.Made made = () -> Due.court(FOUR);
        int[] wrong = {-1, -2, NONE, 2, 3, 256, 65536, Integer.MIN_VALUE, Integer.MAX_VALUE};
        d.refused("keep", made, ShorthandCourt::keep, UNKNOWN, wrong);
        d.refused("again", made, ShorthandCourt::again, UNKNOWN, wrong);
    }

    private static final Due.NumberCall[] OF_NUMBER = {
        ShorthandCourt::write, (x, what) -> x.clerk(0, what), ShorthandCourt::speak, (x, other) -> x.seat(3, other),
        (x, word) -> x.tell(1, word), ShorthandCourt::fits, ShorthandCourt::least, (x, n) -> x.sure(n, 0),
        (x, place) -> x.sure(5, place), (x, n) -> x.likely(n, 0, 0, true), (x, place) -> x.likely(5, place, 0, true),
        (x, word) -> x.likely(5, 0, word, true), ShorthandCourt::toRead, ShorthandCourt::fewest,
        ShorthandCourt::blind, ShorthandCourt::whom, (x, tenths) -> x.lost(tenths, true), (x, m) -> x.days(m, 1),
        (x, n) -> x.days(1, n), ShorthandCourt::count};
    private static final String[] CALLS_OF_NUMBER = {"write", "clerk, what", "speak", "seat, other", "tell, word",
        "fits", "least", "sure, n", "sure, place", "likely, n", "likely, place", "likely, word", "toRead", "fewest",
        "blind", "whom", "lost", "days, m", "days, n", "count"};

    private static void notAsTold() {
        d.sentence("OUTSIDE (another number is not as told), STATE (as told), FULL.");
        for (int i = 0; i < OF_NUMBER.length; i++) {
            d.refused(CALLS_OF_NUMBER[i], EdgesRefusalsTest::busy, OF_NUMBER[i], OUTSIDE, -1, -2, -8, -10, 1000,
                -1000, 1 << 16, 1 << 30, Integer.MIN_VALUE, Integer.MAX_VALUE);
            d.due(CALLS_OF_NUMBER[i] + " takes 1", OF_NUMBER[i].on(busy(), 1) == OUTSIDE ? 1 : 0, 0);
            boolean nobody = CALLS_OF_NUMBER[i].equals("seat, other");
            d.due(CALLS_OF_NUMBER[i] + " of NONE", OF_NUMBER[i].on(busy(), NONE), nobody ? 1 : OUTSIDE);
        }
    }

    private static void firstNamed() {
        d.sentence("REFUSALS, of several the first that a call names");
        ShorthandCourt full = new ShorthandCourt();
        Due.write(full, "C".repeat(32));
        d.due("write: OUTSIDE ahead of FULL", full.write(256), OUTSIDE);
        Due.speak(full, "aaaaaa");
        d.due("speak: OUTSIDE ahead of FULL", full.speak(4), OUTSIDE);
        d.due("lost: OUTSIDE ahead of STATE", full.lost(11, true), OUTSIDE);
        d.due("reform: UNKNOWN ahead of STATE", full.reform(0), UNKNOWN);
        d.due("habits: UNKNOWN ahead of STATE", full.habits(0), UNKNOWN);
        d.due("habit: UNKNOWN ahead of STATE", full.habit(0), UNKNOWN);
        d.due("copied: UNKNOWN ahead of STATE", full.copied(0), UNKNOWN);
        d.due("again: UNKNOWN ahead of STATE", full.again(2), UNKNOWN);
        ShorthandCourt x = Due.court(FOUR);
        d.due("clerk: UNKNOWN ahead of OUTSIDE", x.clerk(4, 7), UNKNOWN);
        d.due("seat: UNKNOWN ahead of OUTSIDE", x.seat(4, 4), UNKNOWN);
        d.due("seat: UNKNOWN ahead of STATE", x.seat(-1, NONE), UNKNOWN);
        d.due("seat: OUTSIDE ahead of STATE", x.seat(0, -1), OUTSIDE);
        d.due("tell: UNKNOWN ahead of OUTSIDE and STATE", x.tell(4, 4), UNKNOWN);
        d.due("tell: UNKNOWN ahead of STATE", x.tell(4, 0), UNKNOWN);
        d.due("tell: OUTSIDE ahead of STATE", x.tell(0, 4), OUTSIDE);
        Due.tell(x, 0, "aaaaaa");
        d.due("tell: OUTSIDE ahead of FULL", x.tell(0, 4), OUTSIDE);
        d.due("tell: UNKNOWN ahead of FULL", x.tell(4, 0), UNKNOWN);
        d.due("likely: OUTSIDE ahead of STATE, by n", x.likely(6, 0, 0, true), OUTSIDE);
        d.due("likely: OUTSIDE ahead of STATE, by place", x.likely(5, 5, 0, true), OUTSIDE);
        d.due("likely: OUTSIDE ahead of STATE, by word", x.likely(5, 4, 4, true), OUTSIDE);
    }

    /** Something of all there is: a text that is not at its end, a full row of acts, told pages, one slot kept. */
    private static ShorthandCourt busy() {
        ShorthandCourt x = Due.court(FOUR);
        Due.speak(x, "abcd");
        x.strike();
        x.reform(2);
        x.keep(0);
        x.seat(3, 1);
        for (int i = 0; i < 5; i++) {
            x.speak(i % 4);
            x.strike();
        }
        x.speak(3);
        Due.tell(x, 1, "abca");
        x.open(3);
        x.seed(77);
        x.wipe();
        Due.write(x, FOUR.substring(0, 24));
        return x;
    }

    private interface Call {
        long on(ShorthandCourt x);
    }

    /** The call is refused as is due, and of a court made in the same way all is as if there had been no call. */
    private static void unchanged(String name, Due.Made made, int refusal, Call call) {
        ShorthandCourt x = made.now();
        d.due(name, call.on(x), refusal);
        d.same("all that can be asked behind " + name, Whole.of(x), Whole.of(made.now()));
    }

    private static void textUnchanged() {
        d.sentence("What is refused changes nothing.");
        Due.Made busy = EdgesRefusalsTest::busy;
        unchanged("write(-1)", busy, OUTSIDE, x -> x.write(-1));
        unchanged("write(256)", busy, OUTSIDE, x -> x.write(256));
        unchanged("court() not at its end", busy, STATE, ShorthandCourt::court);
        unchanged("court() of no text", EdgesRefusalsTest::busyWiped, STATE, ShorthandCourt::court);
        unchanged("court() with a fault", EdgesRefusalsTest::busyFull, STATE, ShorthandCourt::court);
        unchanged("clerk(4, 0)", busy, UNKNOWN, x -> x.clerk(4, 0));
        unchanged("clerk(0, 7)", busy, OUTSIDE, x -> x.clerk(0, 7));
        unchanged("page(4, 0)", busy, UNKNOWN, x -> x.page(4, 0));
    }

    private static ShorthandCourt busyWiped() {
        ShorthandCourt x = busy();
        x.wipe();
        return x;
    }

    /** 32 letters, 6 words of the trial, 6 words of a told page. */
    private static ShorthandCourt busyFull() {
        ShorthandCourt x = busy();
        Due.write(x, "2" + "CK-ab9-");
        Due.speak(x, "bb");
        x.tell(1, 1);
        x.tell(1, 2);
        return x;
    }

    private static void actsUnchanged() {
        d.sentence("What is refused changes nothing.");
        Due.Made busy = EdgesRefusalsTest::busy;
        Due.Made none = () -> Due.court(FOUR);
        unchanged("speak(-1)", busy, OUTSIDE, x -> x.speak(-1));
        unchanged("speak(4)", busy, OUTSIDE, x -> x.speak(4));
        unchanged("strike() of none", none, STATE, ShorthandCourt::strike);
        unchanged("strike() of none, with acts", EdgesRefusalsTest::busyStruck, STATE, ShorthandCourt::strike);
        unchanged("reform(4)", busy, UNKNOWN, x -> x.reform(4));
        unchanged("reform(-1)", busy, UNKNOWN, x -> x.reform(-1));
        unchanged("reform(1)", busy, STATE, x -> x.reform(1));
        unchanged("reform(2)", busy, STATE, x -> x.reform(2));
        unchanged("seat(4, 0)", busy, UNKNOWN, x -> x.seat(4, 0));
        unchanged("seat(3, 3)", busy, OUTSIDE, x -> x.seat(3, 3));
        unchanged("seat(3, -1)", busy, OUTSIDE, x -> x.seat(3, -1));
        unchanged("seat(0, 0)", busy, OUTSIDE, x -> x.seat(0, 0));
        unchanged("seat(3, 1)", busy, STATE, x -> x.seat(3, 1));
        unchanged("seat(0, NONE)", busy, STATE, x -> x.seat(0, NONE));
        unchanged("undo() of none", none, STATE, ShorthandCourt::undo);
        unchanged("undo() of none, with a trial", EdgesRefusalsTest::busyGoneOn, STATE, ShorthandCourt::undo);
    }

    private static ShorthandCourt busyStruck() {
        ShorthandCourt x = busy();
        for (int i = 0; i < 4; i++) {
            x.strike();
        }
        return x;
    }

    private static ShorthandCourt busyGoneOn() {
        ShorthandCourt x = busy();
        x.again(0);
        return x;
    }

    private static void toldUnchanged() {
        d.sentence("What is refused changes nothing.");
        Due.Made busy = EdgesRefusalsTest::busy;
        for (int wrong : new int[] {-1, 4}) {
            unchanged("open(" + wrong + ")", busy, UNKNOWN, x -> x.open(wrong));
            unchanged("tell(" + wrong + ", 0)", busy, UNKNOWN, x -> x.tell(wrong, 0));
            unchanged("tell(1, " + wrong + ")", busy, OUTSIDE, x -> x.tell(1, wrong));
            unchanged("tell(0, " + wrong + "), none told", busy, OUTSIDE, x -> x.tell(0, wrong));
            unchanged("untell(" + wrong + ")", busy, UNKNOWN, x -> x.untell(wrong));
        }
        unchanged("tell(0, 0), none told", busy, STATE, x -> x.tell(0, 0));
        unchanged("tell(2, 3), none told", busy, STATE, x -> x.tell(2, 3));
    }

    private static void questionsUnchanged() {
        d.sentence("What is refused changes nothing.");
        Due.Made busy = EdgesRefusalsTest::busy;
        for (int wrong : new int[] {-1, 6}) {
            unchanged("fits", busy, OUTSIDE, x -> x.fits(wrong));
            unchanged("least", busy, OUTSIDE, x -> x.least(wrong));
            unchanged("sure", busy, OUTSIDE, x -> x.sure(wrong, 0));
            unchanged("likely", busy, OUTSIDE, x -> x.likely(wrong, 0, 0, true));
            unchanged("toRead", busy, OUTSIDE, x -> x.toRead(wrong));
            unchanged("habits", busy, UNKNOWN, x -> x.habits(wrong));
            unchanged("habit", busy, UNKNOWN, x -> x.habit(wrong));
            unchanged("copied", busy, UNKNOWN, x -> x.copied(wrong));
            unchanged("leaves", busy, UNKNOWN, x -> x.leaves(wrong));
            unchanged("fewest", busy, OUTSIDE, x -> x.fewest(wrong));
            unchanged("blind", busy, OUTSIDE, x -> x.blind(wrong));
            unchanged("whom", busy, OUTSIDE, x -> x.whom(wrong));
            unchanged("count", busy, OUTSIDE, x -> x.count(wrong));
            unchanged("days, by m", busy, OUTSIDE, x -> x.days(5 * wrong + 1, 2));
            unchanged("days, by n", busy, OUTSIDE, x -> x.days(2, wrong + 1));
        }
        unchanged("days(0, 6)", busy, OUTSIDE, x -> x.days(0, 6));
        unchanged("days(30, 0)", busy, OUTSIDE, x -> x.days(30, 0));
        unchanged("likely, none fits", busy, STATE, x -> x.likely(1, 0, 0, false));
        unchanged("lost(-1)", busy, OUTSIDE, x -> x.lost(-1, true));
        unchanged("lost(11)", busy, OUTSIDE, x -> x.lost(11, true));
        unchanged("habits, none told", busy, STATE, x -> x.habits(0));
        unchanged("habit, none told", busy, STATE, x -> x.habit(0));
        unchanged("copied, none told", busy, STATE, x -> x.copied(0));
    }

    private static void slotsUnchanged() {
        d.sentence("What is refused changes nothing.");
        Due.Made busy = EdgesRefusalsTest::busy;
        unchanged("keep(-1)", busy, UNKNOWN, x -> x.keep(-1));
        unchanged("keep(2)", busy, UNKNOWN, x -> x.keep(2));
        unchanged("again(-1)", busy, UNKNOWN, x -> x.again(-1));
        unchanged("again(2)", busy, UNKNOWN, x -> x.again(2));
        unchanged("again(1), none kept", busy, STATE, x -> x.again(1));
    }

    private static void fullUnchanged() {
        d.sentence("What is refused changes nothing.");
        Due.Made full = EdgesRefusalsTest::busyFull;
        unchanged("write('-')", full, FULL, x -> x.write('-'));
        unchanged("write(256)", full, OUTSIDE, x -> x.write(256));
        unchanged("speak(0)", full, FULL, x -> x.speak(0));
        unchanged("speak(4)", full, OUTSIDE, x -> x.speak(4));
        unchanged("tell(1, 0)", full, FULL, x -> x.tell(1, 0));
        unchanged("tell(1, 4)", full, OUTSIDE, x -> x.tell(1, 4));
        unchanged("lost(5, true)", full, STATE, x -> x.lost(5, true));
    }

    private static void fractions() {
        d.sentence("FRACTIONS are told above (upper = true), below (1 and more), in least terms");
        // One in two, of 16 in 32: a or b at the last place.
        ShorthandCourt x = Due.court("CK-ab9-");
        Due.tell(x, 0, "bbbbb");
        d.due("likely above", x.likely(5, 4, 0, true), 1);
        d.due("likely below", x.likely(5, 4, 0, false), 2);
        d.due("likely not: above", x.likely(5, 4, 2, true), 0);
        d.due("likely not: below", x.likely(5, 4, 2, false), 1);
        ShorthandCourt y = Due.court("CK---9-");
        y.speak(1);
        d.due("lost above, of 6 in 10", y.lost(4, true), 3);
        d.due("lost below, of 6 in 10", y.lost(4, false), 5);
        d.due("lost surely: above", y.lost(10, true), 0);
        d.due("lost surely: below", y.lost(10, false), 1);
        d.due("lost never: above", y.lost(0, true), 1);
        d.due("lost never: below", y.lost(0, false), 1);
    }

    private static void fractionsRefused() {
        d.sentence("refusals of them are told likewise.");
        for (boolean upper : new boolean[] {true, false}) {
            ShorthandCourt x = Due.court(FOUR);
            Due.tell(x, 0, "c");
            d.due("likely, OUTSIDE", x.likely(0, 0, 0, upper), OUTSIDE);
            d.due("likely, STATE", x.likely(2, 0, 0, upper), STATE);
            d.due("lost, OUTSIDE", x.lost(11, upper), OUTSIDE);
            Due.speak(x, "aaaaaa");
            d.due("lost, STATE", x.lost(1, upper), STATE);
        }
    }

    private static void callsOfObject() {
        d.sentence("An object is used for at most 512 calls after it has been made");
        ShorthandCourt x = new ShorthandCourt();
        for (int call = 1; call <= 510; call += 2) {
            d.due("call " + call, x.speak(call / 2 % 4), 1);
            d.due("call " + (call + 1), x.strike(), call / 2 % 4);
        }
        d.due("call 511", x.count(3), 16);
        d.due("call 512", x.undo(), 15);
        // 27 calls make this court; what follows are calls that take long.
        ShorthandCourt y = Due.court("CK-ab9-K-ab9-K-ab9-K-ab9-");
        for (int call = 28; call <= 512; call++) {
            d.due("call " + call, y.whom(5), 0);
        }
    }
}
