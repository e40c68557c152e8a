/** What the project's tests share: answers that are due, counted, and courts made from a text. */
final class Due {
    private final String name;
    private int right;
    private int wrong;

    Due(String name) {
        this.name = name;
    }

    void due(String call, long got, long want) {
        if (got == want) {
            right++;
        } else {
            wrong++;
            System.out.println(name + ": " + call + " answered " + got + ", due is " + want);
        }
    }

    void fail(String what) {
        wrong++;
        System.out.println(name + ": " + what);
    }

    void end() {
        System.out.println(name + ": " + right + " answers as due, " + wrong + " not");
        if (wrong != 0 || right == 0) {
            System.exit(1);
        }
    }

    /** Writes a text letter by letter behind what is there. */
    static void write(ShorthandCourt x, String text) {
        for (int i = 0; i < text.length(); i++) {
            x.write(text.charAt(i));
        }
    }

    /** A new object with the court that a text tells. */
    static ShorthandCourt court(String text) {
        ShorthandCourt x = new ShorthandCourt();
        anew(x, text);
        return x;
    }

    static int anew(ShorthandCourt x, String text) {
        x.wipe();
        write(x, text);
        return x.court();
    }

    /** Words are told as letters a to d. */
    static void speak(ShorthandCourt x, String words) {
        for (int i = 0; i < words.length(); i++) {
            x.speak(words.charAt(i) - 'a');
        }
    }

    static void tell(ShorthandCourt x, int clerk, String words) {
        x.open(clerk);
        for (int i = 0; i < words.length(); i++) {
            x.tell(clerk, words.charAt(i) - 'a');
        }
    }

    static String page(ShorthandCourt x, int clerk) {
        StringBuilder page = new StringBuilder();
        for (int place = 0; place < 7 && x.page(clerk, place) >= 0; place++) {
            page.append((char) ('a' + x.page(clerk, place)));
        }
        return page.toString();
    }

    static String trial(ShorthandCourt x) {
        StringBuilder trial = new StringBuilder();
        for (int place = 0; place < 7 && x.trial(place) >= 0; place++) {
            trial.append((char) ('a' + x.trial(place)));
        }
        return trial.toString();
    }

    void same(String what, String got, String want) {
        if (got.equals(want)) {
            right++;
        } else {
            fail(what + " is \"" + got + "\", due is \"" + want + "\"");
        }
    }

    /** Everything that calls can show of the state without changing it, as one text. */
    static String shown(ShorthandCourt x) {
        StringBuilder all = new StringBuilder();
        for (int what = 0; what < 6; what++) {
            all.append(x.count(what)).append(' ');
        }
        all.append(x.fault()).append(" trial ").append(trial(x));
        for (int clerk = 0; clerk < x.count(1); clerk++) {
            all.append(" clerk");
            for (int what = 0; what < 7; what++) {
                all.append(' ').append(x.clerk(clerk, what));
            }
            all.append(' ').append(page(x, clerk)).append(' ').append(x.leaves(clerk))
                .append(' ').append(x.habits(clerk));
        }
        long seed = x.seed(0);
        x.seed(seed);
        return all.append(" seed ").append(seed).toString();
    }
}
