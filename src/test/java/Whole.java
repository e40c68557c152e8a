/**
 * All that can be asked of an object, as one text: the row of acts (by undoing it), what was kept (by going on from
 * it) and the text (by making a court of it) too. So the object is spent. It takes fewer than 350 calls.
 */
final class Whole {
    private final ShorthandCourt x;
    private final int clerks;
    private final StringBuilder told = new StringBuilder();

    private Whole(ShorthandCourt x) {
        this.x = x;
        clerks = x.count(1);
    }

    static String of(ShorthandCourt x) {
        Whole whole = new Whole(x);
        whole.seed();
        whole.now();
        whole.toldPages();
        whole.acts();
        whole.slots();
        whole.text();
        return whole.told.toString();
    }

    private void add(long answer) {
        told.append(' ').append(answer);
    }

    private void seed() {
        told.append("seed");
        long seed = x.seed(0);
        x.seed(seed);
        add(seed);
    }

    private void now() {
        told.append(" counts");
        for (int what = 0; what < 6; what++) {
            add(x.count(what));
        }
        told.append(" fault");
        add(x.fault());
        told.append(" trial ").append(Due.trial(x));
        for (int clerk = 0; clerk < clerks; clerk++) {
            told.append(" clerk");
            for (int what = 0; what < 7; what++) {
                add(x.clerk(clerk, what));
            }
            told.append(' ').append(Due.page(x, clerk));
        }
    }

    private void toldPages() {
        told.append(" told");
        for (int clerk = 0; clerk < clerks; clerk++) {
            add(x.habits(clerk));
            add(x.copied(clerk));
            add(x.leaves(clerk));
        }
        for (int n = 0; n < 6; n++) {
            add(x.fits(n));
            add(x.least(n));
        }
    }

    private void acts() {
        told.append(" acts");
        int left = x.undo();
        for (int i = 0; i < 17 && left >= 0; i++) {
            told.append(" undone");
            add(left);
            habits();
            add(x.trial(x.count(2) - 1));
            left = x.undo();
        }
        add(left);
    }

    private void habits() {
        for (int clerk = 0; clerk < clerks; clerk++) {
            add(x.clerk(clerk, 1));
            add(x.clerk(clerk, 4));
        }
    }

    private void slots() {
        for (int slot = 0; slot < 2; slot++) {
            told.append(" slot");
            add(x.again(slot));
            told.append(' ').append(Due.trial(x));
            habits();
        }
    }

    private void text() {
        told.append(" text");
        int inText = x.court();
        add(inText);
        for (int clerk = 0; clerk < inText; clerk++) {
            for (int what = 0; what < 5; what++) {
                add(x.clerk(clerk, what));
            }
        }
    }
}
