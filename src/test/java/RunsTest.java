import java.lang.reflect.Method;
import java.lang.reflect.Modifier;
import java.util.ArrayList;
import java.util.HashMap;
import java.util.List;
import java.util.Map;
import java.util.Set;
import java.util.TreeSet;

/**
 * Objects used for as many calls as the document lets them be, each of one kind of call above all: what is made
 * ready first, then the same few calls round and round up to the 512th. Each answer is held against a PlainCourt.
 */
public final class RunsTest {
    private static final int CALLS = 512;
    /** Four clerks, who drop, write for another, tire and copy; their text has as many letters as a court can have. */
    private static final String[] FOUR = text("CKabc9-K-cd1-Kd--00K-ba92");
    /** Four who tell all trials apart, but two by two only the last pair that is tried. */
    private static final String[] SLOW = text("CKa--9-Kb--9-Kc--9-K-ab9-");
    private static final String[] SPOKEN = {"speak(0)", "speak(1)", "speak(2)", "speak(3)", "speak(2)"};
    private static final String[] TOLD = {"open(0)", "tell(0, 2)", "tell(0, 2)", "tell(0, 3)", "open(3)", "tell(3, 2)"};
    private static final Due d = new Due("RunsTest");
    private static final Set<String> called = new TreeSet<>();

    public static void main(String[] args) {
        theCourt();
        acts();
        toldPages();
        apart();
        slots();
        allAreCalled();
        d.end();
    }

    /** The calls that make a text the court. */
    private static String[] text(String letters) {
        List<String> calls = new ArrayList<>();
        for (char letter : letters.toCharArray()) {
            calls.add("write(" + (int) letter + ")");
        }
        calls.add("court()");
        return calls.toArray(new String[0]);
    }

    private static void theCourt() {
        changing(ready(), "write(67)", "write(255)", "write(256)", "write(0)", "write(-1)");
        changing(ready(), "write(67)", "wipe()", "fault()", "write(75)", "fault()", "court()");
        asking(ready(FOUR), "fault()", "count(0)");
        changing(ready(FOUR), "court()", "speak(1)", "open(3)", "keep(0)", "undo()", "again(0)", "count(4)");
        asking(ready(FOUR, SPOKEN), "clerk(0, 0)", "clerk(1, 1)", "clerk(1, 2)", "clerk(2, 3)", "clerk(3, 4)",
            "clerk(3, 5)", "clerk(3, 6)", "clerk(4, 0)", "clerk(0, 7)");
        asking(ready(FOUR, SPOKEN), "page(0, 0)", "page(1, 2)", "page(2, 0)", "page(3, 1)", "page(4, 0)", "trial(4)",
            "trial(5)");
    }

    private static void acts() {
        changing(ready(FOUR), "speak(0)", "speak(3)", "speak(1)", "strike()", "speak(4)");
        changing(ready(FOUR), "speak(2)", "strike()", "strike()");
        changing(ready(FOUR, SPOKEN), "reform(0)", "reform(1)", "reform(2)", "reform(3)", "undo()", "undo()", "undo()",
            "count(3)");
        changing(ready(FOUR, SPOKEN), "seat(3, 0)", "seat(3, 1)", "seat(2, -9)", "seat(2, 1)", "seat(3, -9)",
            "seat(0, -9)", "count(5)");
        changing(ready(FOUR, SPOKEN), "speak(1)", "strike()", "seat(3, 1)", "seat(3, 2)", "undo()", "trial(5)");
    }

    private static void toldPages() {
        changing(ready(FOUR), "open(0)", "tell(0, 0)", "tell(0, 1)", "untell(0)", "untell(0)", "tell(0, 3)", "open(3)",
            "tell(3, 3)", "count(4)", "fits(1)");
        changing(ready(FOUR), "tell(1, 0)", "tell(1, 3)", "open(2)", "tell(2, 1)", "untell(4)");
        changing(ready(FOUR, new String[] {"open(1)"}), "tell(1, 0)", "tell(1, 3)", "clerk(1, 6)");
        asking(ready(FOUR, SPOKEN, TOLD), "fits(5)", "least(5)", "sure(5, 0)", "likely(5, 4, 1, true)",
            "likely(5, 4, 1, false)", "toRead(5)");
        asking(ready(FOUR, SPOKEN), "fits(5)", "least(5)", "sure(5, 4)", "likely(5, 4, 3, true)", "toRead(5)");
        asking(ready(FOUR, SPOKEN, TOLD), "habits(0)", "habit(0)", "habits(3)", "habit(3)", "habits(1)");
        asking(ready(FOUR, SPOKEN, TOLD), "copied(0)", "copied(3)", "leaves(0)", "leaves(3)", "leaves(1)");
    }

    private static void apart() {
        asking(ready(SLOW), "fewest(5)", "blind(5)", "whom(5)");
        asking(ready(FOUR), "fewest(5)", "blind(5)", "whom(5)", "fewest(0)", "blind(0)", "whom(6)");
        asking(ready(SLOW, SPOKEN), "lost(0, true)", "lost(3, true)", "lost(3, false)", "lost(10, true)");
        changing(ready(FOUR), "days(30, 6)", "days(1, 1)", "days(31, 6)", "seed(-1)", "days(30, 5)", "days(7, 3)");
    }

    private static void slots() {
        changing(ready(FOUR), "again(1)", "speak(3)", "keep(0)", "speak(1)", "keep(1)", "reform(0)", "again(0)",
            "seat(3, -9)", "undo()", "again(1)", "strike()", "count(3)", "keep(2)");
        asking(ready(FOUR, SPOKEN, TOLD), "count(0)", "count(1)", "count(2)", "count(3)", "count(4)", "count(5)",
            "count(6)", "count(-1)");
    }

    private static List<String> ready(String[]... parts) {
        List<String> calls = new ArrayList<>();
        for (String[] part : parts) {
            calls.addAll(List.of(part));
        }
        return calls;
    }

    private static void changing(List<String> first, String... round) {
        run(first, false, round);
    }

    /** Calls that change nothing: the plain court is asked once for each, as it takes long. */
    private static void asking(List<String> first, String... round) {
        run(first, true, round);
    }

    private static void run(List<String> first, boolean asks, String... round) {
        ShorthandCourt x = new ShorthandCourt();
        PlainCourt y = new PlainCourt();
        Map<String, Long> known = new HashMap<>();
        for (int done = 0; done < CALLS; done++) {
            boolean isFirst = done < first.size();
            String call = isFirst ? first.get(done) : round[(done - first.size()) % round.length];
            called.add(Calls.nameIn(call));
            long want = isFirst || !asks ? Calls.answer(y, call)
                : known.computeIfAbsent(call, asked -> Calls.answer(y, asked));
            d.due("call " + (done + 1) + " of a run, " + call, Calls.answer(x, call), want);
        }
    }

    private static void allAreCalled() {
        Set<String> face = new TreeSet<>();
        for (Method method : ShorthandCourt.class.getDeclaredMethods()) {
            if (Modifier.isPublic(method.getModifiers())) {
                face.add(method.getName());
            }
        }
        d.same("what was called", called.toString(), face.toString());
    }
}
