/** The edges that promises 1 to 8 and the first part of 'Terms' name, sentence by sentence. */
public final class EdgesCourtTest {
    private static final int UNKNOWN = -1, OUTSIDE = -2, STATE = -3, FULL = -4, NONE = -9;
    private static final String FOUR = "CK---9-K---90K---91K---92";
    private static final Due d = new Due("EdgesCourtTest");

    public static void main(String[] args) {
        newObject();
        lettersTaken();
        textFull();
        textEmpty();
        courtBegins();
        fourClerks();
        clerkBegins();
        dropsTold();
        fromTold();
        toTold();
        tiresTold();
        copiesTold();
        firstFault();
        onlyNotAtEnd();
        noFault();
        courtAnew();
        courtRefused();
        tires();
        copiedRow();
        dropsAheadOfFrom();
        whatOfClerk();
        noneOfClerk();
        placesOfPage();
        placesOfTrial();
        d.end();
    }

    private static ShorthandCourt text(String letters) {
        ShorthandCourt x = new ShorthandCourt();
        Due.write(x, letters);
        return x;
    }

    private static void newObject() {
        d.sentence("No clerks, nothing spoken.");
        d.due("count(1)", new ShorthandCourt().count(1), 0);
        d.due("count(2)", new ShorthandCourt().count(2), 0);
        d.due("clerk(0, 0)", new ShorthandCourt().clerk(0, 0), UNKNOWN);
        d.due("trial(0)", new ShorthandCourt().trial(0), NONE);
        d.due("strike()", new ShorthandCourt().strike(), STATE);

        d.sentence("At first THE COURT is C.");
        ShorthandCourt x = new ShorthandCourt();
        d.due("fewest(0)", x.fewest(0), 0);
        d.due("blind(1)", x.blind(1), 3);
        d.due("fits(5)", x.fits(5), 1024);
        d.due("speak(3)", x.speak(3), 1);
        d.due("lost(0, true)", x.lost(0, true), 0);
        d.due("days(30, 6)", x.days(30, 6), 0);
        d.due("keep(1)", x.keep(1), 1);
        d.due("letters: it need not be told", x.count(0), 0);
    }

    private static void lettersTaken() {
        d.sentence("A letter (0 to 255) comes behind THE TEXT: how long it is.");
        d.taken("write", ShorthandCourt::new, ShorthandCourt::write, 0, 255, OUTSIDE);
        ShorthandCourt x = new ShorthandCourt();
        d.due("the first", x.write('C'), 1);
        d.due("behind it", x.write('K'), 2);
        d.due("the letters stand in their order", x.fault(), 2);
        d.due("0", x.write(0), 3);
        d.due("255", x.write(255), 4);
        d.due("0 is a letter, and a fault", x.fault(), 2);
    }

    private static void textFull() {
        d.sentence("THE TEXT is letters (32 at most).");
        ShorthandCourt x = text("C");
        for (int letters = 2; letters <= 32; letters++) {
            d.due("letter " + letters, x.write('C'), letters);
        }
        d.due("letters", x.count(0), 32);

        d.sentence("OUTSIDE; FULL: there are 32.");
        d.due("with 31", text("C".repeat(31)).write('C'), 32);
        d.due("with 32", text("C".repeat(32)).write('C'), FULL);
        d.due("with 32, and no letter", text("C".repeat(32)).write(256), OUTSIDE);
        d.due("with 32, and no letter", text("C".repeat(32)).write(-1), OUTSIDE);
        d.due("letters", x.count(0), 32);
        d.due("wiped", x.wipe(), 32);
        d.due("there is room again", x.write('C'), 1);
    }

    private static void textEmpty() {
        d.sentence("THE TEXT is empty: how long it was.");
        d.due("an empty one", new ShorthandCourt().wipe(), 0);
        d.due("one letter", text("C").wipe(), 1);
        ShorthandCourt x = text("C".repeat(32));
        d.due("a full one", x.wipe(), 32);
        d.due("letters", x.count(0), 0);
        d.due("no letter of it is left", x.fault(), 0);
        d.due("wiped twice", x.wipe(), 0);
        ShorthandCourt y = Due.court(FOUR);
        Due.speak(y, "ab");
        y.wipe();
        d.due("THE COURT is no TEXT: it stays", y.count(1), 4);
        d.due("and what was spoken", y.count(2), 2);
        d.due("and the acts", y.count(3), 2);
    }

    /** Behind this text just these letters can stand, of all there are. */
    private static void canFollow(String ahead, String letters) {
        for (int letter = 0; letter < 256; letter++) {
            ShorthandCourt x = text(ahead);
            x.write(letter);
            int length = ahead.length() + 1;
            int due = letters.indexOf(letter) < 0 ? length - 1 : length % 6 == 1 ? NONE : length;
            d.due("fault of " + ahead + " and letter " + letter, x.fault(), due);
        }
    }

    private static void courtBegins() {
        d.sentence("A COURT is a TEXT: C, then CLERKS, none or more");
        canFollow("", "C");
        d.due("none", text("C").court(), 0);
        d.due("one", text("CK---9-").court(), 1);
    }

    private static void fourClerks() {
        d.sentence("(4 at most, numbered as they are told)");
        for (int clerks = 0; clerks <= 4; clerks++) {
            ShorthandCourt x = text(FOUR.substring(0, 1 + 6 * clerks));
            d.due("fault of " + clerks + " clerks", x.fault(), NONE);
            d.due("court of " + clerks + " clerks", x.court(), clerks);
        }
        canFollow(FOUR, "");
        ShorthandCourt five = text(FOUR + "K---9-");
        d.due("fault of five", five.fault(), 25);
        d.due("court of five", five.court(), STATE);
        ShorthandCourt x = Due.court("CKd--3-Kc--2-Kb--1-Ka--0-");
        for (int clerk = 0; clerk < 4; clerk++) {
            d.due("DROPS of " + clerk, x.clerk(clerk, 0), 3 - clerk);
            d.due("TIRES of " + clerk, x.clerk(clerk, 3), 3 - clerk);
        }
    }

    private static void clerkBegins() {
        d.sentence("K, DROPS (a to d, or -: none)");
        for (int clerk = 0; clerk < 4; clerk++) {
            canFollow(FOUR.substring(0, 1 + 6 * clerk), "K");
        }
    }

    private static void dropsTold() {
        d.sentence("DROPS (a to d, or -: none)");
        for (int clerk = 0; clerk < 4; clerk++) {
            canFollow(FOUR.substring(0, 2 + 6 * clerk), "-abcd");
        }
        for (int word = 0; word < 4; word++) {
            d.due("DROPS", Due.court("CK" + (char) ('a' + word) + "--9-").clerk(0, 0), word);
        }
        d.due("-", Due.court("CK---9-").clerk(0, 0), NONE);
    }

    private static void fromTold() {
        d.sentence("FROM (a to d, or -)");
        for (int clerk = 0; clerk < 4; clerk++) {
            canFollow(FOUR.substring(0, 3 + 6 * clerk), "-abcd");
        }
        // What he drops is no hindrance: the two stand beside each other.
        canFollow("CKa", "-abcd");
        d.due("a", Due.court("CK-ad9-").clerk(0, 1), 0);
        d.due("d", Due.court("CK-da9-").clerk(0, 1), 3);
        d.due("-", Due.court("CK---9-").clerk(0, 1), NONE);
    }

    private static void toTold() {
        d.sentence("TO (if FROM is -: -; else a to d, another one)");
        String[] froms = {"-", "a", "b", "c", "d"};
        String[] tos = {"-", "bcd", "acd", "abd", "abc"};
        for (int i = 0; i < 5; i++) {
            canFollow("CK-" + froms[i], tos[i]);
            canFollow("CKa" + froms[i], tos[i]);
            canFollow("CK---9-K-ab90K-" + froms[i], tos[i]);
        }
        d.due("a", Due.court("CK-da9-").clerk(0, 2), 0);
        d.due("d", Due.court("CK-ad9-").clerk(0, 2), 3);
        d.due("-", Due.court("CK---9-").clerk(0, 2), NONE);
    }

    private static void tiresTold() {
        d.sentence("TIRES (0 to 9)");
        for (int clerk = 0; clerk < 4; clerk++) {
            canFollow(FOUR.substring(0, 5 + 6 * clerk), "0123456789");
        }
        for (int tires = 0; tires <= 9; tires++) {
            d.due("TIRES", Due.court("CK---" + tires + "-").clerk(0, 3), tires);
        }
    }

    private static void copiesTold() {
        d.sentence("COPIES (a CLERK told ahead, or -: nobody)");
        String[] ahead = {"-", "-0", "-01", "-012"};
        for (int clerk = 0; clerk < 4; clerk++) {
            canFollow(FOUR.substring(0, 6 + 6 * clerk), ahead[clerk]);
        }
        for (int other = 0; other < 3; other++) {
            ShorthandCourt x = Due.court("CK---9-K---9-K---9-K---9" + other);
            d.due("COPIES", x.clerk(3, 4), other);
        }
        d.due("-", Due.court(FOUR.substring(0, 24) + "-").clerk(3, 4), NONE);
        d.due("- of the first", Due.court(FOUR).clerk(0, 4), NONE);
    }

    private static void firstFault() {
        d.sentence("FAULT: the place of the first letter by which THE TEXT can be no COURT, whatever came behind it");
        for (int place = 0; place <= 25; place++) {
            String spoilt = FOUR.substring(0, place) + "e";
            d.due("nothing behind it: " + spoilt, text(spoilt).fault(), place);
            d.due("another one behind it: " + spoilt + "e", text(spoilt + "e").fault(), place);
            String whole = spoilt + FOUR.substring(Math.min(place + 1, 25));
            d.due("all behind it as it should be: " + whole, text(whole).fault(), place);
            d.due("a whole court behind it: " + spoilt + "C", text(spoilt + "C").fault(), place);
        }
        // That - is not a word behind FROM a is seen at TO, not at FROM.
        d.due("FROM without TO", text("CK-a-9-").fault(), 4);
        d.due("TO without FROM", text("CK--a9-").fault(), 4);

        d.sentence("(its length set aside)");
        d.due("as long as can be", text((FOUR + FOUR).substring(0, 32)).fault(), 25);
        d.due("as long as can be", text("C".repeat(32)).fault(), 1);
    }

    private static void onlyNotAtEnd() {
        d.sentence("its length, if it is only not at its end; NONE: none.");
        for (int length = 0; length <= 25; length++) {
            int due = length % 6 == 1 ? NONE : length;
            d.due("of " + length + " letters", text(FOUR.substring(0, length)).fault(), due);
        }
    }

    private static void noFault() {
        d.sentence("FAULT; NONE.");
        d.due("C", text("C").fault(), NONE);
        d.due("four clerks", text(FOUR).fault(), NONE);
        d.due("every habit", text("CKdcb0-Kabd10K-da91Kcba52").fault(), NONE);
        ShorthandCourt x = text("Ce");
        x.wipe();
        Due.write(x, "C");
        d.due("a fault that was wiped", x.fault(), NONE);
    }

    /** A court with something of all that a new one ends. */
    private static ShorthandCourt busy() {
        ShorthandCourt x = Due.court(FOUR);
        Due.speak(x, "abcd");
        x.keep(0);
        x.seat(3, 0);
        x.keep(1);
        for (int clerk = 0; clerk < 4; clerk++) {
            Due.tell(x, clerk, "ab");
        }
        x.seed(-5);
        return x;
    }

    private static void courtAnew() {
        d.sentence("Nothing was SPOKEN, when THE COURT is made anew.");
        ShorthandCourt x = busy();
        d.due("court()", x.court(), 4);
        d.due("words", x.count(2), 0);
        d.due("trial(0)", x.trial(0), NONE);
        d.due("words on pages", x.count(5), 0);
        d.due("there is room for six", x.speak(0) + x.speak(0) + x.speak(0) + x.speak(0) + x.speak(0) + x.speak(0), 21);

        d.sentence("THE TEXT is THE COURT");
        ShorthandCourt seated = busy();
        seated.court();
        d.due("COPIES as the text tells", seated.clerk(3, 4), 2);
        d.due("letters stay", seated.count(0), 25);
        d.due("so it is THE COURT once more", seated.court(), 4);
        ShorthandCourt fewer = busy();
        d.due("one clerk instead of four", Due.anew(fewer, "CKd--3-"), 1);
        d.due("he is another one", fewer.clerk(0, 0), 3);
        d.due("the others are gone", fewer.clerk(1, 0), UNKNOWN);
        d.due("none instead of one", Due.anew(fewer, "C"), 0);
        d.due("he is gone too", fewer.clerk(0, 0), UNKNOWN);
        d.due("four instead of none", Due.anew(fewer, FOUR), 4);
        d.due("with no old habits", fewer.clerk(0, 0), NONE);

        d.sentence("(THE ROW of ACTS is empty, what was kept is gone, no PAGE is told; THE SEED stays)");
        ShorthandCourt y = busy();
        y.court();
        d.due("acts", y.count(3), 0);
        d.due("undo()", y.undo(), STATE);
        d.due("told", y.count(4), 0);
        for (int clerk = 0; clerk < 4; clerk++) {
            d.due("told of " + clerk, y.clerk(clerk, 6), NONE);
        }
        d.due("all fit", y.fits(2), 16);
        d.due("again(0)", y.again(0), STATE);
        d.due("again(1)", y.again(1), STATE);
        d.due("seed", y.seed(0), -5);
        ShorthandCourt none = busy();
        Due.anew(none, "C");
        Due.anew(none, FOUR);
        d.due("nor comes anything back with clerks: told", none.count(4), 0);
        d.due("again(0)", none.again(0), STATE);
    }

    private static void courtRefused() {
        d.sentence("how many CLERKS. STATE: a FAULT.");
        d.due("no text", new ShorthandCourt().court(), STATE);
        for (int length = 0; length <= 25; length++) {
            int due = length % 6 == 1 ? length / 6 : STATE;
            d.due("of " + length + " letters", text(FOUR.substring(0, length)).court(), due);
        }
        d.due("a fault at 0", text("K" + FOUR).court(), STATE);
        d.due("a fault in the last letter", text(FOUR.substring(0, 24) + "3").court(), STATE);
        d.due("a fault behind four clerks", text(FOUR + "C").court(), STATE);
    }

    private static void tires() {
        d.sentence("WORD by WORD (places from 0): at place TIRES and 1 more, and at each second one from there on "
            + "(TIRES and 3, TIRES and 5, ..), he omits it");
        String[] pages = {"aca", "abdb", "abca", "abcdb", "abcda", "abcdab", "abcdab", "abcdab", "abcdab", "abcdab"};
        for (int tires = 0; tires <= 9; tires++) {
            ShorthandCourt x = Due.court("CK---" + tires + "-");
            Due.speak(x, "abcdab");
            d.same("page, TIRES " + tires, Due.page(x, 0), pages[tires]);
        }
        ShorthandCourt x = Due.court("CK---0-K---1-");
        int[] first = {1, 1, 2, 2, 3, 3};
        int[] second = {1, 2, 2, 3, 3, 4};
        for (int words = 1; words <= 6; words++) {
            x.speak(0);
            d.due("TIRES 0 of " + words, x.clerk(0, 5), first[words - 1]);
            d.due("TIRES 1 of " + words, x.clerk(1, 5), second[words - 1]);
        }
        // Places are those of the row he hears: what he drops takes its place too.
        ShorthandCourt y = Due.court("CKa--0-");
        Due.speak(y, "abcb");
        d.same("page of one who drops a", Due.page(y, 0), "c");
    }

    private static void copiedRow() {
        d.sentence("A PAGE of a CLERK comes from a row: THE TRIAL, or, if he COPIES, the PAGE of that one");
        ShorthandCourt x = Due.court("CK---0-K---00K---01K---02");
        Due.speak(x, "abcdab");
        String[] pages = {"aca", "aa", "a", "a"};
        for (int clerk = 0; clerk < 4; clerk++) {
            d.same("page of " + clerk, Due.page(x, clerk), pages[clerk]);
        }
        ShorthandCourt y = Due.court("CK-ab9-Kb--90K-ba91K---90");
        Due.speak(y, "abc");
        d.same("b for a", Due.page(y, 0), "bbc");
        d.same("b dropped from it", Due.page(y, 1), "c");
        d.same("a for b, but none is left", Due.page(y, 2), "c");
        d.same("all of the first one's", Due.page(y, 3), "bbc");
        ShorthandCourt empty = Due.court("CKa--9-K-bc90K---01");
        Due.speak(empty, "aa");
        d.due("an empty page copied", empty.clerk(1, 5), 0);
        d.due("an empty page copied twice", empty.clerk(2, 5), 0);
    }

    private static void dropsAheadOfFrom() {
        d.sentence("else, if it is what he DROPS, he omits it; else, if it is FROM, he writes TO; else it as it is.");
        String[][] pages = {{"a--9-", "bcd"}, {"-ab9-", "bbcd"}, {"aab9-", "bcd"}, {"bab9-", "bcd"},
            {"-da9-", "abca"}, {"ddc9-", "abc"}, {"cdc9-", "abc"}, {"---9-", "abcd"}};
        for (String[] one : pages) {
            ShorthandCourt x = Due.court("CK" + one[0]);
            Due.speak(x, "abcd");
            d.same("page of " + one[0], Due.page(x, 0), one[1]);
        }
    }

    private static void whatOfClerk() {
        d.sentence("Of a CLERK DROPS (what = 0; NONE), FROM (1; NONE), TO (2; NONE), TIRES (3), COPIES (4; NONE), "
            + "WORDS on his PAGE (5), of his told PAGE (6; NONE: none is told). UNKNOWN; OUTSIDE.");
        d.taken("clerk(0, what)", () -> Due.court(FOUR), (x, what) -> x.clerk(0, what), 0, 6, OUTSIDE);
        d.taken("clerk(clerk, 3)", () -> Due.court(FOUR), (x, clerk) -> x.clerk(clerk, 3), 0, 3, UNKNOWN);
        d.taken("of one", () -> Due.court("CK---0-"), (x, clerk) -> x.clerk(clerk, 3), 0, 0, UNKNOWN);
        d.taken("of none", ShorthandCourt::new, (x, clerk) -> x.clerk(clerk, 3), 0, -1, UNKNOWN);
        d.due("clerk(4, 7)", Due.court(FOUR).clerk(4, 7), UNKNOWN);
        d.due("clerk(-1, -1)", Due.court(FOUR).clerk(-1, -1), UNKNOWN);
        ShorthandCourt x = Due.court("CK---9-Kadb80");
        Due.speak(x, "dcabd");
        Due.tell(x, 1, "abc");
        // He copies dcabd: b, c, (a dropped), b, b.
        int[] due = {0, 3, 1, 8, 0, 4, 3};
        for (int what = 0; what <= 6; what++) {
            d.due("clerk(1, " + what + ")", x.clerk(1, what), due[what]);
        }
    }

    private static void noneOfClerk() {
        d.sentence("WORDS on his PAGE (5), of his told PAGE (6; NONE: none is told)");
        ShorthandCourt x = Due.court("CK---9-Kd--9-");
        d.due("nothing spoken", x.clerk(0, 5), 0);
        d.due("none is told", x.clerk(0, 6), NONE);
        x.open(0);
        d.due("an empty one is told", x.clerk(0, 6), 0);
        Due.speak(x, "dddddd");
        d.due("six words", x.clerk(0, 5), 6);
        d.due("all dropped", x.clerk(1, 5), 0);
        Due.tell(x, 0, "dddddd");
        d.due("six words told", x.clerk(0, 6), 6);
        x.untell(0);
        d.due("told no more", x.clerk(0, 6), NONE);
        d.due("FROM 0 is no NONE", Due.court("CKaab0-K-ba00").clerk(0, 1), 0);
        d.due("TO 0 is no NONE", Due.court("CKaab0-K-ba00").clerk(1, 2), 0);
        d.due("COPIES 0 is no NONE", Due.court("CKaab0-K-ba00").clerk(1, 4), 0);
    }

    private static void placesOfPage() {
        d.sentence("The WORD at a place of his PAGE; NONE: there are not so many. UNKNOWN.");
        d.taken("page(clerk, 0)", () -> Due.court(FOUR), (x, clerk) -> x.page(clerk, 0), 0, 3, UNKNOWN);
        d.taken("of none", ShorthandCourt::new, (x, clerk) -> x.page(clerk, 0), 0, -1, UNKNOWN);
        ShorthandCourt x = Due.court("CK---9-Kb--4-");
        d.due("nothing spoken", x.page(0, 0), NONE);
        Due.speak(x, "abcdab");
        int[] first = {0, 1, 2, 3, 0, 1, NONE};
        int[] second = {0, 2, 3, 0, NONE, NONE, NONE};
        for (int place = 0; place <= 6; place++) {
            d.due("page(0, " + place + ")", x.page(0, place), first[place]);
            d.due("page(1, " + place + ")", x.page(1, place), second[place]);
        }
        d.refused("page(0, place)", () -> x, (y, place) -> y.page(0, place), NONE, -1, -2, 6, 7, 16, 31, 32, 33, 64,
            256, 65536, Integer.MIN_VALUE, Integer.MIN_VALUE + 1, Integer.MAX_VALUE);
        d.due("page(2, -1)", x.page(2, -1), UNKNOWN);
    }

    private static void placesOfTrial() {
        d.sentence("The WORD at a place of THE TRIAL; NONE.");
        ShorthandCourt x = new ShorthandCourt();
        d.due("nothing spoken", x.trial(0), NONE);
        Due.speak(x, "dabcda");
        int[] due = {3, 0, 1, 2, 3, 0, NONE};
        for (int place = 0; place <= 6; place++) {
            d.due("trial(" + place + ")", x.trial(place), due[place]);
        }
        d.refused("trial", () -> x, ShorthandCourt::trial, NONE, -1, -2, 6, 7, 16, 31, 32, 33, 64, 256, 65536,
            Integer.MIN_VALUE, Integer.MIN_VALUE + 1, Integer.MAX_VALUE);
        x.strike();
        d.due("the last place, struck", x.trial(5), NONE);
        d.due("the one ahead of it", x.trial(4), 3);
    }
}
