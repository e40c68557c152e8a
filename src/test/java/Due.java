import java.io.IOException;
import java.nio.file.Files;
import java.nio.file.Path;

/** What the project's tests share: answers that are due, counted, and courts made from a text. */
final class Due {
    private static final Path DOCUMENT = Path.of("../shared/DOC.md");
    private static final int NONE = -9;

    private final String name;
    private String sentence = "";
    private String document = "";
    private int sentences;
    private int right;
    private int wrong;

    Due(String name) {
        this.name = name;
    }

    /** A call with one number that is asked for, on an object that is made for it. */
    interface NumberCall {
        long on(ShorthandCourt x, int number);
    }

    interface Made {
        ShorthandCourt now();
    }

    /** What follows holds this sentence, or part of one, of the document: its own words, wherever it stands. */
    void sentence(String words) {
        sentence = " '" + words + "'";
        sentences++;
        if (!document().isEmpty() && !document().contains(words)) {
            fail("these are not words of the document");
        }
    }

    /** The document in one line; empty, where it is not at hand, as then no words can be looked up. */
    private String document() {
        if (document.isEmpty() && Files.isReadable(DOCUMENT)) {
            try {
                document = Files.readString(DOCUMENT).replaceAll("\\s+", " ");
            } catch (IOException e) {
                fail("the document can't be read: " + e);
            }
        }
        return document;
    }

    void due(String call, long got, long want) {
        if (got == want) {
            right++;
        } else {
            fail(call + " answered " + got + ", due is " + want);
        }
    }

    void fail(String what) {
        wrong++;
        System.out.println(name + sentence + ": " + what);
    }

    void end() {
        String of = sentences == 0 ? "" : " for " + sentences + " sentences";
        System.out.println(name + ": " + right + " answers as due" + of + ", " + wrong + " not");
        if (wrong != 0 || right == 0) {
            System.exit(1);
        }
    }

    /**
     * The numbers from first to last are taken (NONE is an answer too), and none beside them: the next ones, those
     * that a byte or a char would take for them, and the ends of int. With last below first none is taken.
     */
    void taken(String call, Made made, NumberCall of, int first, int last, int refusal) {
        for (int number = first; number <= last; number++) {
            long got = of.on(made.now(), number);
            due(call + " takes " + number + " (answer " + got + ")", got >= 0 || got == NONE ? 1 : 0, 1);
        }
        refused(call, made, of, refusal, first - 1, last + 1);
        for (int by : new int[] {1 << 8, 1 << 16, Integer.MIN_VALUE}) {
            refused(call, made, of, refusal, first - by, last - by, first + by, last + by);
        }
        refused(call, made, of, refusal, Integer.MIN_VALUE, Integer.MAX_VALUE);
    }

    void refused(String call, Made made, NumberCall of, int refusal, int... numbers) {
        for (int number : numbers) {
            due(call + " of " + number, of.on(made.now(), number), refusal);
        }
    }

    /** Writes a text letter by letter behind what is there. */
    static void write(ShorthandCourt x, String text) {
        for (int i = 0; i < text.length(); i++) {
            x.write(text.charAt(i));
        }
    }

    /** A new object with the court that a text tells. */
    static ShorthandCourt court(String text) {
        ShorthandCourt x = new ShorthandCourt();
        anew(x, text);
        return x;
    }

    static int anew(ShorthandCourt x, String text) {
        x.wipe();
        write(x, text);
        return x.court();
    }

    /** Words are told as letters a to d. */
    static void speak(ShorthandCourt x, String words) {
        for (int i = 0; i < words.length(); i++) {
            x.speak(words.charAt(i) - 'a');
        }
    }

    static void tell(ShorthandCourt x, int clerk, String words) {
        x.open(clerk);
        for (int i = 0; i < words.length(); i++) {
            x.tell(clerk, words.charAt(i) - 'a');
        }
    }

    static String page(ShorthandCourt x, int clerk) {
        StringBuilder page = new StringBuilder();
        int word = x.page(clerk, 0);
        for (int place = 1; place < 8 && word >= 0; place++) {
            page.append((char) ('a' + word));
            word = x.page(clerk, place);
        }
        return page.toString();
    }

    static String trial(ShorthandCourt x) {
        StringBuilder trial = new StringBuilder();
        int word = x.trial(0);
        for (int place = 1; place < 8 && word >= 0; place++) {
            trial.append((char) ('a' + word));
            word = x.trial(place);
        }
        return trial.toString();
    }

    void same(String what, String got, String want) {
        if (got.equals(want)) {
            right++;
        } else {
            fail(what + " is \"" + got + "\", due is \"" + want + "\"");
        }
    }

    /** Everything that calls can show of the state without changing it, as one text. */
    static String shown(ShorthandCourt x) {
        StringBuilder all = new StringBuilder();
        for (int what = 0; what < 6; what++) {
            all.append(x.count(what)).append(' ');
        }
        all.append(x.fault()).append(" trial ").append(trial(x));
        for (int clerk = 0; clerk < x.count(1); clerk++) {
            all.append(" clerk");
            for (int what = 0; what < 7; what++) {
                all.append(' ').append(x.clerk(clerk, what));
            }
            all.append(' ').append(page(x, clerk)).append(' ').append(x.leaves(clerk))
                .append(' ').append(x.habits(clerk));
        }
        long seed = x.seed(0);
        x.seed(seed);
        return all.append(" seed ").append(seed).toString();
    }
}
