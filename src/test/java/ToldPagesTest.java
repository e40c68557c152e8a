/** Promises 14 to 25: told pages. */
public final class ToldPagesTest {
    private static final int UNKNOWN = -1, OUTSIDE = -2, STATE = -3, FULL = -4, NONE = -9;
    private static final Due d = new Due("ToldPagesTest");

    public static void main(String[] args) {
        promise14();
        promise15();
        promise16();
        promise17();
        promise18();
        promise19();
        promise20();
        promise21();
        promise22();
        promise23();
        promise24();
        promise25();
        nothingIsChanged();
        d.end();
    }

    private static void promise14() {
        ShorthandCourt x = Due.court("CK---9-K---9-");
        d.due("open(0)", x.open(0), NONE);
        d.due("open(0), empty", x.open(0), 0);
        x.tell(0, 1);
        x.tell(0, 2);
        d.due("open(0), two words", x.open(0), 2);
        d.due("words of it", x.clerk(0, 6), 0);
        d.due("the other one", x.clerk(1, 6), NONE);
        d.due("open(2)", x.open(2), UNKNOWN);
        d.due("open(-1)", x.open(-1), UNKNOWN);
        d.due("open(MAX)", x.open(Integer.MAX_VALUE), UNKNOWN);
        d.due("no act", x.count(3), 0);
    }

    private static void promise15() {
        ShorthandCourt x = Due.court("CK---9-K---9-");
        d.due("tell(0, 0), none told", x.tell(0, 0), STATE);
        d.due("tell(0, 4), none told", x.tell(0, 4), OUTSIDE);
        d.due("tell(2, 4)", x.tell(2, 4), UNKNOWN);
        d.due("tell(-1, 0)", x.tell(-1, 0), UNKNOWN);
        x.open(0);
        d.due("tell(0, -1)", x.tell(0, -1), OUTSIDE);
        for (int i = 1; i <= 6; i++) {
            d.due("tell", x.tell(0, i % 4), i);
        }
        d.due("a seventh", x.tell(0, 3), FULL);
        d.due("a seventh, no word", x.tell(0, 4), OUTSIDE);
        d.due("words", x.clerk(0, 6), 6);
        d.due("of the other one none is told", x.tell(1, 0), STATE);
    }

    private static void promise16() {
        ShorthandCourt x = Due.court("CK---9-K---9-");
        d.due("untell(0), none told", x.untell(0), NONE);
        x.open(0);
        d.due("untell(0), empty", x.untell(0), 0);
        Due.tell(x, 1, "abc");
        x.open(0);
        d.due("untell(1)", x.untell(1), 3);
        d.due("told", x.count(4), 1);
        d.due("untell(1) again", x.untell(1), NONE);
        d.due("untell(2)", x.untell(2), UNKNOWN);
        d.due("untell(-9)", x.untell(-9), UNKNOWN);
        d.due("open(1) is empty again", x.open(1), NONE);
    }

    private static void promise17() {
        ShorthandCourt none = new ShorthandCourt();
        for (int n = 0; n <= 5; n++) {
            d.due("no clerks: fits(" + n + ")", none.fits(n), 1 << 2 * n);
        }
        d.due("fits(-1)", none.fits(-1), OUTSIDE);
        d.due("fits(6)", none.fits(6), OUTSIDE);
        d.due("fits(MIN)", none.fits(Integer.MIN_VALUE), OUTSIDE);
        // He drops a: what he wrote stands among a's.
        ShorthandCourt x = Due.court("CKa--9-Kb--9-");
        Due.tell(x, 0, "bc");
        d.due("fits(1)", x.fits(1), 0);
        d.due("fits(2)", x.fits(2), 1);
        d.due("fits(3): a among bc", x.fits(3), 3);
        d.due("fits(5): three a's among bc", x.fits(5), 10);
        Due.tell(x, 1, "aca");
        d.due("fits(4): abca, baca", x.fits(4), 2);
        d.due("fits(3)", x.fits(3), 0);
        // A told page fits by what one would write in that trial, not by another one's told page.
        ShorthandCourt y = Due.court("CK-ab9-K---90");
        Due.tell(y, 1, "b");
        d.due("copies: a or b", y.fits(1), 2);
        Due.tell(y, 0, "c");
        d.due("they don't go together", y.fits(1), 0);
        y.speak(2);
        y.untell(1);
        d.due("the trial itself is not asked", y.fits(1), 1);
    }

    private static void promise18() {
        ShorthandCourt x = Due.court("C");
        int[] want = {0, 1, 11, 111, 1111, 11111};
        for (int n = 0; n <= 5; n++) {
            d.due("no clerks: least(" + n + ")", x.least(n), want[n]);
        }
        d.due("least(-1)", x.least(-1), OUTSIDE);
        d.due("least(6)", x.least(6), OUTSIDE);
        Due.anew(x, "CKb--9-");
        Due.tell(x, 0, "dc");
        d.due("least(1)", x.least(1), NONE);
        d.due("least(0)", x.least(0), NONE);
        d.due("least(2)", x.least(2), 43);
        d.due("least(3): b ahead", x.least(3), 243);
        d.due("least(5)", x.least(5), 22243);
        x.open(0);
        d.due("least(0), an empty page", x.least(0), 0);
    }

    private static void promise19() {
        ShorthandCourt x = Due.court("CKd--9-");
        Due.tell(x, 0, "ab");
        d.due("sure(2, 0)", x.sure(2, 0), 0);
        d.due("sure(2, 1)", x.sure(2, 1), 1);
        d.due("sure(3, 0)", x.sure(3, 0), NONE);
        d.due("sure(1, 0): none fits", x.sure(1, 0), NONE);
        Due.anew(x, "CK---1-");
        Due.tell(x, 0, "dcb");
        d.due("one word omitted: sure(4, 0)", x.sure(4, 0), 3);
        d.due("sure(4, 1)", x.sure(4, 1), 2);
        d.due("sure(4, 2)", x.sure(4, 2), NONE);
        d.due("sure(4, 3)", x.sure(4, 3), 1);
        d.due("sure(5, 3)", x.sure(5, 3), 1);
        d.due("sure(5, 4)", x.sure(5, 4), NONE);
        d.due("sure(0, 0)", x.sure(0, 0), OUTSIDE);
        d.due("sure(6, 0)", x.sure(6, 0), OUTSIDE);
        d.due("sure(4, 4)", x.sure(4, 4), OUTSIDE);
        d.due("sure(4, -1)", x.sure(4, -1), OUTSIDE);
        d.due("sure(1, MAX)", x.sure(1, Integer.MAX_VALUE), OUTSIDE);
    }

    private static void likely(ShorthandCourt x, int n, int place, int word, int above, int below) {
        String call = "likely(" + n + ", " + place + ", " + word + ", ";
        d.due(call + "true)", x.likely(n, place, word, true), above);
        d.due(call + "false)", x.likely(n, place, word, false), below);
    }

    private static void promise20() {
        ShorthandCourt x = Due.court("CKa--9-");
        likely(x, 5, 4, 3, 1, 4);
        Due.tell(x, 0, "bc");
        // aabc abac abca baac baca bcaa
        likely(x, 4, 0, 0, 1, 2);
        likely(x, 4, 0, 1, 1, 2);
        likely(x, 4, 0, 2, 0, 1);
        likely(x, 4, 1, 1, 1, 3);
        likely(x, 4, 1, 2, 1, 6);
        likely(x, 2, 1, 2, 1, 1);
        likely(x, 1, 0, 0, STATE, STATE);
        likely(x, 0, 0, 0, OUTSIDE, OUTSIDE);
        likely(x, 6, 0, 0, OUTSIDE, OUTSIDE);
        likely(x, 4, 4, 0, OUTSIDE, OUTSIDE);
        likely(x, 4, -1, 0, OUTSIDE, OUTSIDE);
        likely(x, 4, 0, 4, OUTSIDE, OUTSIDE);
        likely(x, 4, 0, -1, OUTSIDE, OUTSIDE);
        likely(x, 1, 0, 4, OUTSIDE, OUTSIDE);
        likely(x, 1, 1, 0, OUTSIDE, OUTSIDE);
    }

    private static void promise21() {
        ShorthandCourt x = Due.court("CK-ab0-Kabc9-K---9-");
        d.due("toRead(0): all are alike", x.toRead(0), 0);
        d.due("toRead(1)", x.toRead(1), 2);
        d.due("toRead(-1)", x.toRead(-1), OUTSIDE);
        d.due("toRead(6)", x.toRead(6), OUTSIDE);
        Due.tell(x, 2, "bd");
        d.due("one fits, and two are left", x.toRead(2), 0);
        d.due("none fits", x.toRead(3), NONE);
        x.open(0);
        x.open(1);
        d.due("all are told", x.toRead(2), NONE);
        Due.anew(x, "CK---9-K-bc9-Kc--9-");
        Due.tell(x, 0, "c");
        d.due("of like ones the least", x.toRead(1), 1);
        d.due("no clerks", new ShorthandCourt().toRead(1), NONE);
        // Told b of one who writes b for a: a or b. The second writes both alike, the third does not.
        Due.anew(x, "CK-ab9-K-ba9-K---9-");
        Due.tell(x, 0, "b");
        d.due("by trials that fit alone", x.toRead(1), 2);
        Due.anew(x, "CK-ab9-K---90K---9-");
        Due.tell(x, 0, "b");
        d.due("his copyist tells nothing new", x.toRead(1), 2);
    }

    private static void promise22() {
        ShorthandCourt x = Due.court("CKabc0-K---90");
        d.due("habits(2)", x.habits(2), UNKNOWN);
        d.due("habits(-1)", x.habits(-1), UNKNOWN);
        d.due("habits(0)", x.habits(0), STATE);
        x.open(0);
        d.due("nothing from nothing", x.habits(0), 650);
        x.tell(0, 1);
        d.due("something from nothing", x.habits(0), 0);
        Due.speak(x, "a");
        // FROM a, TO b; DROPS other than a: 4 ways; TIRES: 10.
        d.due("b from a", x.habits(0), 40);
        Due.tell(x, 0, "a");
        // DROPS other than a: 4; FROM other than a: 10 of 13; TIRES: 10.
        d.due("a from a", x.habits(0), 400);
        x.open(0);
        d.due("nothing from a", x.habits(0), 130);
        Due.speak(x, "bcdab");
        Due.tell(x, 1, "abcdab");
        // DROPS none, FROM none, TIRES 5 to 9.
        d.due("all from all", x.habits(1), 5);
        Due.tell(x, 1, "abcda");
        d.due("he tires at the last one", x.habits(1), 1);
        Due.tell(x, 1, "dcba");
        d.due("no habit", x.habits(1), 0);
    }

    private static void promise23() {
        ShorthandCourt x = Due.court("CKabc0-K---90");
        d.due("habit(2)", x.habit(2), UNKNOWN);
        d.due("habit(-1)", x.habit(-1), UNKNOWN);
        d.due("habit(0)", x.habit(0), STATE);
        x.open(0);
        d.due("nothing from nothing", x.habit(0), 0);
        Due.speak(x, "abcdab");
        d.due("nothing from all", x.habit(0), NONE);
        Due.tell(x, 0, "abcdab");
        d.due("all from all", x.habit(0), 5);
        Due.tell(x, 0, "abcda");
        d.due("tires at 4", x.habit(0), 4);
        // At TIRES 3 he omits the second a, which he drops anyway.
        Due.tell(x, 0, "acda");
        d.due("b dropped fits, but a dropped and a for b comes first", x.habit(0), 1213);
        Due.tell(x, 0, "bbcdbb");
        d.due("b for a", x.habit(0), 125);
        Due.tell(x, 0, "dcdd");
        d.due("a dropped, d for b", x.habit(0), 1243);
        Due.tell(x, 0, "adada");
        d.due("no habit", x.habit(0), NONE);
        Due.tell(x, 0, "ada");
        d.due("d for c, tires at 0", x.habit(0), 340);
        Due.tell(x, 1, "aa");
        d.due("c dropped, tires at 0 fits, but b dropped, a for d, tires at 1 comes first", x.habit(1), 2411);
        Due.anew(x, "CKa--9-K---90");
        Due.speak(x, "ab");
        Due.tell(x, 1, "b");
        d.due("from the trial, though he copies another page", x.habit(1), 120);
    }

    private static void promise24() {
        ShorthandCourt x = Due.court("CKa--9-Kb--9-K---9-K---91");
        d.due("copied(4)", x.copied(4), UNKNOWN);
        d.due("copied(-1)", x.copied(-1), UNKNOWN);
        d.due("copied(0)", x.copied(0), STATE);
        Due.speak(x, "abc");
        Due.tell(x, 2, "abc");
        d.due("from the trial", x.copied(2), 16);
        Due.tell(x, 2, "bc");
        d.due("from the first", x.copied(2), 1);
        Due.tell(x, 2, "ac");
        d.due("from the second, or one who copies him", x.copied(2), 2 + 8);
        Due.tell(x, 1, "ac");
        d.due("not from one who copies him", x.copied(1), 16 + 4);
        Due.tell(x, 0, "bc");
        d.due("not from himself", x.copied(0), 16 + 4);
        Due.tell(x, 3, "c");
        d.due("from nobody", x.copied(3), 0);
        x.seat(2, 0);
        x.seat(3, 2);
        Due.tell(x, 0, "bc");
        d.due("not from one who copies one that does", x.copied(0), 16);
        Due.tell(x, 3, "bc");
        d.due("from whom he copies, and from whom that one copies", x.copied(3), 4 + 1);
        Due.anew(x, "CK---9-K---90K---91K---92");
        x.open(0);
        d.due("nothing spoken: from the trial alone", x.copied(0), 16);
        x.open(3);
        d.due("nothing spoken: from all but himself", x.copied(3), 23);
    }

    private static int leaves(String trial, String toldPage) {
        ShorthandCourt x = Due.court("CK---9-");
        Due.speak(x, trial);
        Due.tell(x, 0, toldPage);
        return x.leaves(0);
    }

    private static void promise25() {
        ShorthandCourt x = Due.court("CK---9-");
        d.due("leaves(1)", x.leaves(1), UNKNOWN);
        d.due("leaves(-1)", x.leaves(-1), UNKNOWN);
        d.due("leaves(0), none told", x.leaves(0), NONE);
        d.due("no leaf", leaves("", ""), 1);
        d.due("no leaf for a word", leaves("", "a"), 0);
        d.due("a word for no leaf", leaves("a", ""), 0);
        d.due("one leaf", leaves("a", "a"), 1);
        d.due("another word", leaves("a", "b"), 0);
        d.due("a leaf is not turned", leaves("ab", "ba"), 0);
        d.due("two leaves", leaves("abcd", "cdab"), 1);
        d.due("two leaves, as they were", leaves("abcd", "abcd"), 1);
        d.due("the short one first", leaves("abc", "cab"), 1);
        d.due("not torn apart", leaves("abc", "acb"), 0);
        d.due("two alike", leaves("abab", "abab"), 2);
        d.due("three alike", leaves("aaaaaa", "aaaaaa"), 6);
        d.due("aa aa a", leaves("aaaaa", "aaaaa"), 6);
        d.due("two alike and one", leaves("ababcd", "abcdab"), 2);
        d.due("three", leaves("abcdba", "bacdab"), 1);
        d.due("the short one in the midst", leaves("abcda", "abacd"), 1);
        d.due("too few told", leaves("abcd", "ab"), 0);
        d.due("too many told", leaves("ab", "abab"), 0);
        x = Due.court("CKa--9-");
        Due.speak(x, "abacad");
        Due.tell(x, 0, "dbc");
        d.due("of the page as he writes it", x.leaves(0), 1);
    }

    private static ShorthandCourt busy() {
        ShorthandCourt x = Due.court("CKabc1-K-da00Kb--9-Kcab21");
        Due.speak(x, "abdca");
        Due.tell(x, 1, "ca");
        Due.tell(x, 2, "ad");
        x.seed(-3);
        return x;
    }

    private static void nothingIsChanged() {
        String shown = Due.shown(busy());
        for (int n = -1; n <= 6; n++) {
            ShorthandCourt x = busy();
            x.fits(n);
            x.least(n);
            x.sure(n, 0);
            x.likely(n, 1, 2, true);
            x.toRead(n);
            x.habits(n);
            x.habit(n);
            x.copied(n);
            x.leaves(n);
            x.fewest(n);
            x.blind(n);
            x.whom(n);
            x.lost(n, true);
            d.same("what is shown, n = " + n, Due.shown(x), shown);
        }
    }
}
