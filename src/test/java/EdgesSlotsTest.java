/** The edges that promises 32 to 34 and the slots of 'Terms' name, sentence by sentence. */
public final class EdgesSlotsTest {
    private static final int UNKNOWN = -1, OUTSIDE = -2, STATE = -3, NONE = -9;
    private static final String FOUR = "CK-ab9-K-da90K-bc91Kabd92";
    private static final Due d = new Due("EdgesSlotsTest");

    public static void main(String[] args) {
        slots();
        whatIsKept();
        whatIsNotKept();
        rowEmpty();
        keepWords();
        againWords();
        noneKept();
        counts();
        countsFull();
        d.end();
    }

    private static ShorthandCourt spoken(String words) {
        ShorthandCourt x = Due.court(FOUR);
        Due.speak(x, words);
        return x;
    }

    private static ShorthandCourt bothKept() {
        ShorthandCourt x = spoken("ab");
        x.keep(0);
        x.keep(1);
        return x;
    }

    private static void slots() {
        d.sentence("SLOTS 0 to 1 keep THE TRIAL, FROM, TO, COPIES of all");
        d.taken("keep", () -> spoken("ab"), ShorthandCourt::keep, 0, 1, UNKNOWN);
        d.taken("again", EdgesSlotsTest::bothKept, ShorthandCourt::again, 0, 1, UNKNOWN);
        ShorthandCourt x = spoken("a");
        x.keep(0);
        x.speak(1);
        x.keep(1);
        x.speak(2);
        d.due("again(0)", x.again(0), 1);
        d.due("again(1)", x.again(1), 2);
        d.due("again(0), each by itself", x.again(0), 1);
        d.same("trial", Due.trial(x), "a");
    }

    private static String habits(ShorthandCourt x) {
        StringBuilder all = new StringBuilder();
        for (int clerk = 0; clerk < 4; clerk++) {
            for (int what = 0; what < 5; what++) {
                all.append(x.clerk(clerk, what)).append(' ');
            }
        }
        return all.toString();
    }

    private static void whatIsKept() {
        d.sentence("keep THE TRIAL, FROM, TO, COPIES of all");
        for (int slot = 0; slot < 2; slot++) {
            ShorthandCourt x = spoken("dabc");
            String before = habits(x);
            x.keep(slot);
            for (int clerk = 0; clerk < 4; clerk++) {
                x.reform(clerk);
            }
            x.seat(1, NONE);
            x.seat(2, 0);
            x.seat(3, 1);
            x.strike();
            x.strike();
            x.speak(3);
            d.due("again(" + slot + ")", x.again(slot), 4);
            d.same("FROM, TO, COPIES of all", habits(x), before);
            d.same("trial", Due.trial(x), "dabc");
            d.same("a page by them", Due.page(x, 1), "abbc");
        }
        ShorthandCourt gone = spoken("");
        gone.reform(0);
        gone.seat(3, NONE);
        String before = habits(gone);
        gone.keep(0);
        gone.undo();
        gone.undo();
        gone.again(0);
        d.same("what was none is none again", habits(gone), before);
        for (int clerk = 0; clerk < 4; clerk++) {
            ShorthandCourt x = spoken("");
            x.keep(1);
            int from = x.clerk(clerk, 1);
            int to = x.clerk(clerk, 2);
            x.reform(clerk);
            x.again(1);
            d.due("FROM of " + clerk, x.clerk(clerk, 1), from);
            d.due("TO of " + clerk, x.clerk(clerk, 2), to);
        }
    }

    private static void whatIsNotKept() {
        d.sentence("They are as they were kept");
        ShorthandCourt x = spoken("ab");
        Due.tell(x, 0, "ab");
        x.seed(1);
        x.keep(0);
        x.open(1);
        x.tell(0, 2);
        x.open(3);
        x.untell(3);
        x.seed(2);
        x.wipe();
        Due.write(x, "CK");
        x.again(0);
        d.due("PAGES are told as they are", x.count(4), 3);
        d.due("words told", x.clerk(0, 6), 3);
        d.due("the seed is as it is", x.seed(0), 2);
        d.due("and the text", x.count(0), 2);
    }

    private static void rowEmpty() {
        d.sentence("(THE ROW of ACTS is empty when one goes on)");
        ShorthandCourt x = spoken("ab");
        x.keep(0);
        d.due("not when one keeps", x.count(3), 2);
        x.strike();
        x.again(0);
        d.due("acts", x.count(3), 0);
        d.due("undo()", x.undo(), STATE);
        d.same("trial", Due.trial(x), "ab");
        x.speak(2);
        d.due("acts begin anew", x.count(3), 1);
        d.due("undo()", x.undo(), 0);
        d.same("trial", Due.trial(x), "ab");
        ShorthandCourt full = spoken("ab");
        full.keep(1);
        for (int i = 0; i < 10; i++) {
            full.speak(3);
            full.strike();
        }
        d.due("a full row", full.count(3), 16);
        full.again(1);
        d.due("acts", full.count(3), 0);
        for (int i = 0; i < 9; i++) {
            full.strike();
            full.speak(0);
        }
        d.due("a full row again", full.count(3), 16);
        ShorthandCourt same = spoken("ab");
        same.keep(0);
        same.again(0);
        d.due("though nothing else changes", same.count(3), 0);
    }

    private static void keepWords() {
        d.sentence("They are kept: WORDS of THE TRIAL. UNKNOWN.");
        for (int words = 0; words <= 6; words++) {
            d.due("keep(0) of " + words, spoken("abcdab".substring(0, words)).keep(0), words);
            d.due("keep(1) of " + words, spoken("abcdab".substring(0, words)).keep(1), words);
        }
        d.due("no clerks", new ShorthandCourt().keep(0), 0);
        ShorthandCourt x = spoken("abc");
        x.keep(0);
        x.strike();
        d.due("kept over", x.keep(0), 2);
        x.speak(3);
        d.due("the later one", x.again(0), 2);
        d.same("trial", Due.trial(x), "ab");
        ShorthandCourt undone = spoken("ab");
        undone.keep(1);
        undone.undo();
        undone.undo();
        d.due("what is kept is not undone", undone.again(1), 2);
    }

    private static void againWords() {
        d.sentence("They are as they were kept: WORDS of THE TRIAL.");
        for (int words = 0; words <= 6; words++) {
            ShorthandCourt x = spoken("abcdab".substring(0, words));
            x.keep(0);
            if (words < 6) {
                x.speak(3);
            } else {
                x.strike();
            }
            d.due("again(0) of " + words, x.again(0), words);
            d.same("trial of " + words, Due.trial(x), "abcdab".substring(0, words));
            x.strike();
            d.due("a second time", x.again(0), words);
        }
    }

    private static void noneKept() {
        d.sentence("UNKNOWN; STATE: none were kept.");
        d.due("slot 0 at first", spoken("a").again(0), STATE);
        d.due("slot 1 at first", spoken("a").again(1), STATE);
        d.due("a new object", new ShorthandCourt().again(0), STATE);
        ShorthandCourt x = spoken("a");
        x.keep(0);
        d.due("in the other slot", x.again(1), STATE);
        ShorthandCourt y = spoken("a");
        y.keep(1);
        d.due("in the other slot", y.again(0), STATE);
        ShorthandCourt nothing = new ShorthandCourt();
        nothing.keep(0);
        nothing.speak(2);
        d.due("nothing spoken was kept, by no clerks", nothing.again(0), 0);
        ShorthandCourt gone = bothKept();
        gone.court();
        d.due("gone with the court: slot 0", gone.again(0), STATE);
        d.due("slot 1", gone.again(1), STATE);
        d.due("no slot", gone.again(2), UNKNOWN);
    }

    private static void counts() {
        d.sentence("0 letters of THE TEXT, 1 CLERKS, 2 WORDS of THE TRIAL, 3 ACTS in the row, 4 CLERKS of whom a PAGE "
            + "is told (bits), 5 WORDS of all PAGES. OUTSIDE.");
        d.taken("count", () -> spoken("ab"), ShorthandCourt::count, 0, 5, OUTSIDE);
        d.taken("of a new one", ShorthandCourt::new, ShorthandCourt::count, 0, 5, OUTSIDE);
        for (int what = 0; what <= 5; what++) {
            d.due("of a new one: count(" + what + ")", new ShorthandCourt().count(what), 0);
        }
        ShorthandCourt x = Due.court("CKa--9-K---0-K---91");
        Due.speak(x, "abab");
        x.strike();
        x.open(0);
        x.open(2);
        x.write('K');
        // aba is written b, aa, aa.
        int[] due = {20, 3, 3, 5, 5, 5};
        for (int what = 0; what <= 5; what++) {
            d.due("count(" + what + ")", x.count(what), due[what]);
        }
        for (int clerk = 0; clerk < 4; clerk++) {
            ShorthandCourt y = Due.court(FOUR);
            y.open(clerk);
            d.due("told of " + clerk + " alone, and empty", y.count(4), 1 << clerk);
        }
    }

    private static void countsFull() {
        d.sentence("4 CLERKS of whom a PAGE is told (bits), 5 WORDS of all PAGES.");
        ShorthandCourt x = Due.court("CK---9-K---9-K---9-K---9-");
        Due.write(x, "CCCCCCCC");
        Due.speak(x, "abcdabc");
        for (int i = 0; i < 6; i++) {
            x.strike();
            x.speak(0);
        }
        for (int clerk = 0; clerk < 4; clerk++) {
            Due.tell(x, clerk, "abcdabc");
        }
        int[] due = {32, 4, 6, 16, 15, 24};
        for (int what = 0; what <= 5; what++) {
            d.due("all full: count(" + what + ")", x.count(what), due[what]);
        }
    }
}
