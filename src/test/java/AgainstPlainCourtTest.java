import java.util.ArrayList;
import java.util.List;
import java.util.Random;

/**
 * Runs of calls by a fixed seed, each call on a ShorthandCourt and on a PlainCourt: both must answer alike.
 * Arguments are mostly such as are taken, with edges and wild numbers among them. Each run is as long as the
 * document lets an object be used: 512 calls.
 */
public final class AgainstPlainCourtTest {
    private static final int RUNS = 400;
    private static final int CALLS = 512;
    private static final int MOST_AT_ONCE = 40;
    private static final int NONE = -9;
    private static final int[] WILD = {Integer.MIN_VALUE, Integer.MAX_VALUE, -2, NONE, 16, 31, 32, 33, 64, 1 << 30};
    private static final Due d = new Due("AgainstPlainCourtTest");

    private final Random random;
    private final ShorthandCourt x = new ShorthandCourt();
    private final PlainCourt y = new PlainCourt();
    private final List<String> log = new ArrayList<>();
    private boolean wrong;

    private AgainstPlainCourtTest(long seed) {
        random = new Random(seed);
    }

    public static void main(String[] args) {
        for (int run = 0; run < RUNS; run++) {
            new AgainstPlainCourtTest(run).run();
        }
        d.end();
    }

    /** A court or a page takes several calls: the last ones of a run are single ones, up to the object's last. */
    private void run() {
        while (log.size() < CALLS - MOST_AT_ONCE && !wrong) {
            switch (random.nextInt(12)) {
                case 0 -> newCourt();
                case 1, 2 -> tellPage();
                default -> oneCall();
            }
        }
        while (log.size() < CALLS && !wrong) {
            oneCall();
        }
        d.due("calls of a run", log.size(), wrong ? log.size() : CALLS);
    }

    private void same(String call, long got, long want) {
        log.add(call + " = " + got);
        d.due(call, got, want);
        if (got != want && !wrong) {
            wrong = true;
            log.forEach(System.out::println);
        }
    }

    private void letter(int letter) {
        same("write(" + letter + ")", x.write(letter), y.write(letter));
    }

    /** A court, now and then with a letter spoilt or cut off; sometimes the old one stays for long. */
    private void newCourt() {
        if (log.size() > 40 && random.nextInt(4) != 0) {
            return;
        }
        same("wipe()", x.wipe(), y.wipe());
        StringBuilder text = new StringBuilder("C");
        int clerks = random.nextInt(12) == 0 ? 5 : random.nextInt(5);
        for (int i = 0; i < clerks; i++) {
            text.append(clerkText(i));
        }
        int spoil = random.nextInt(8);
        if (spoil == 0) {
            text.setLength(random.nextInt(text.length() + 1));
        } else if (spoil == 1) {
            text.setCharAt(random.nextInt(text.length()), "CK-abcde`0129/:".charAt(random.nextInt(15)));
        }
        for (int i = 0; i < text.length(); i++) {
            letter(text.charAt(i));
        }
        same("fault()", x.fault(), y.fault());
        same("court()", x.court(), y.court());
    }

    private String clerkText(int number) {
        char drops = random.nextInt(2) == 0 ? '-' : (char) ('a' + random.nextInt(4));
        String change = "--";
        if (random.nextInt(3) != 0) {
            int from = random.nextInt(4);
            change = "" + (char) ('a' + from) + (char) ('a' + (from + 1 + random.nextInt(3)) % 4);
        }
        int tires = random.nextInt(2) == 0 ? 9 : random.nextInt(10);
        boolean copies = number > 0 && random.nextInt(2) == 0;
        return "K" + drops + change + tires + (copies ? "" + random.nextInt(number) : "-");
    }

    /** Tells a clerk's page of now, perhaps a little changed, or any one. */
    private void tellPage() {
        int clerk = number(y.count(1));
        same("open(" + clerk + ")", x.open(clerk), y.open(clerk));
        boolean own = random.nextInt(3) != 0;
        int words = own ? y.clerk(clerk, 5) : random.nextInt(4);
        for (int place = 0; place < words; place++) {
            int word = own && random.nextInt(15) != 0 ? y.page(clerk, place) : random.nextInt(4);
            same("tell(" + clerk + ", " + word + ")", x.tell(clerk, word), y.tell(clerk, word));
        }
    }

    /** Mostly one of so many, else at the edges, else wild. */
    private int number(int many) {
        int kind = random.nextInt(30);
        if (kind == 0) {
            return WILD[random.nextInt(WILD.length)];
        }
        if (kind == 1) {
            return random.nextBoolean() ? -1 : many;
        }
        return many > 0 ? random.nextInt(many) : 0;
    }

    private int length(int shortest) {
        int n = number(6);
        // Long ones take the plain court long.
        return n < shortest && random.nextInt(10) != 0 ? shortest : n == 5 && random.nextInt(3) != 0 ? 3 : n;
    }

    private void oneCall() {
        int which = random.nextInt(40);
        if (which < 18) {
            smallCall(which);
        } else if (which < 30) {
            askTold(which);
        } else {
            askApart(which);
        }
    }

    private void smallCall(int which) {
        int clerk = number(y.count(1));
        int place = number(7);
        int word = number(4);
        int slot = number(2);
        switch (which) {
            case 0 -> same("clerk(" + clerk + ", " + place + ")", x.clerk(clerk, place), y.clerk(clerk, place));
            case 1 -> same("page(" + clerk + ", " + place + ")", x.page(clerk, place), y.page(clerk, place));
            case 2 -> same("trial(" + place + ")", x.trial(place), y.trial(place));
            case 3, 4, 5, 6, 7 -> same("speak(" + word + ")", x.speak(word), y.speak(word));
            case 8 -> same("strike()", x.strike(), y.strike());
            case 9 -> same("reform(" + clerk + ")", x.reform(clerk), y.reform(clerk));
            case 10, 11 -> {
                int other = random.nextInt(3) == 0 ? NONE : number(clerk);
                same("seat(" + clerk + ", " + other + ")", x.seat(clerk, other), y.seat(clerk, other));
            }
            case 12, 13 -> same("undo()", x.undo(), y.undo());
            case 14 -> same("untell(" + clerk + ")", x.untell(clerk), y.untell(clerk));
            case 15 -> same("keep(" + slot + ")", x.keep(slot), y.keep(slot));
            case 16 -> same("again(" + slot + ")", x.again(slot), y.again(slot));
            default -> same("count(" + place + ")", x.count(place), y.count(place));
        }
    }

    private void askTold(int which) {
        int clerk = number(y.count(1));
        int n = length(0);
        int n1 = length(1);
        int place = number(n1);
        int word = number(4);
        boolean upper = random.nextBoolean();
        switch (which) {
            case 18 -> same("fits(" + n + ")", x.fits(n), y.fits(n));
            case 19 -> same("least(" + n + ")", x.least(n), y.least(n));
            case 20 -> same("sure(" + n1 + ", " + place + ")", x.sure(n1, place), y.sure(n1, place));
            case 21 -> same("likely(" + n1 + ", " + place + ", " + word + ", " + upper + ")",
                x.likely(n1, place, word, upper), y.likely(n1, place, word, upper));
            case 22 -> same("toRead(" + n + ")", x.toRead(n), y.toRead(n));
            case 23 -> same("habits(" + clerk + ")", x.habits(clerk), y.habits(clerk));
            case 24 -> same("habit(" + clerk + ")", x.habit(clerk), y.habit(clerk));
            case 25, 26 -> same("copied(" + clerk + ")", x.copied(clerk), y.copied(clerk));
            case 27, 28 -> same("leaves(" + clerk + ")", x.leaves(clerk), y.leaves(clerk));
            default -> same("tell(" + clerk + ", " + word + ")", x.tell(clerk, word), y.tell(clerk, word));
        }
    }

    private void askApart(int which) {
        int n = length(0);
        int tenths = number(11);
        int m = 1 + number(30);
        int words = 1 + number(6);
        long v = random.nextInt(3) == 0 ? random.nextInt(9) - 4 : random.nextLong();
        boolean upper = random.nextBoolean();
        switch (which) {
            case 30, 31 -> same("fewest(" + n + ")", x.fewest(n), y.fewest(n));
            case 32, 33 -> same("blind(" + n + ")", x.blind(n), y.blind(n));
            case 34, 35 -> same("whom(" + n + ")", x.whom(n), y.whom(n));
            case 36, 37 -> same("lost(" + tenths + ", " + upper + ")", x.lost(tenths, upper), y.lost(tenths, upper));
            case 38 -> same("seed(" + v + ")", x.seed(v), y.seed(v));
            default -> same("days(" + m + ", " + words + ")", x.days(m, words), y.days(m, words));
        }
    }
}
