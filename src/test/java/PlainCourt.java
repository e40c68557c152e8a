import java.util.ArrayDeque;
import java.util.ArrayList;
import java.util.Arrays;
import java.util.Deque;
import java.util.HashMap;
import java.util.HashSet;
import java.util.List;
import java.util.Map;
import java.util.Set;
import java.util.regex.Matcher;
import java.util.regex.Pattern;

/**
 * The document told once more, with lists, maps and a pattern instead of numbers: what ShorthandCourt answers
 * is held against it. Rows are lists of words; none is null.
 */
final class PlainCourt {
    private static final int UNKNOWN = -1, OUTSIDE = -2, STATE = -3, FULL = -4, NONE = -9;
    private static final String SUBST = "(?:--|a[bcd]|b[acd]|c[abd]|d[abc])";
    private static final Pattern COURT = Pattern.compile("C(?:" + clerk("-") + "(?:" + clerk("-0") + "(?:"
        + clerk("-01") + "(?:" + clerk("-012") + ")?)?)?)?");

    private static String clerk(String copies) {
        return "K[-abcd]" + SUBST + "[0-9][" + copies + "]";
    }

    /** One clerk: null is none, nobody, nothing told. */
    private static final class Clerk {
        Integer drops;
        Integer from;
        Integer to;
        int tires;
        Integer copies;
        List<Integer> told;

        Clerk copy() {
            Clerk c = new Clerk();
            c.drops = drops;
            c.from = from;
            c.to = to;
            c.tires = tires;
            c.copies = copies;
            c.told = told;
            return c;
        }
    }

    private static final class Kept {
        final List<Integer> trial;
        final List<Clerk> clerks = new ArrayList<>();

        Kept(List<Integer> trial, List<Clerk> clerks) {
            this.trial = new ArrayList<>(trial);
            for (Clerk c : clerks) {
                this.clerks.add(c.copy());
            }
        }
    }

    private String text = "";
    private List<Clerk> clerks = new ArrayList<>();
    private List<Integer> trial = new ArrayList<>();
    private final Deque<Kept> acts = new ArrayDeque<>();
    private final Kept[] slots = new Kept[2];
    private long seed;

    private static int orNone(Integer i) {
        return i == null ? NONE : i;
    }

    private boolean unknown(int clerk) {
        return clerk < 0 || clerk >= clerks.size();
    }

    int write(int letter) {
        if (letter < 0 || letter > 255) {
            return OUTSIDE;
        }
        if (text.length() == 32) {
            return FULL;
        }
        text += (char) letter;
        return text.length();
    }

    int wipe() {
        int n = text.length();
        text = "";
        return n;
    }

    int fault() {
        for (int end = 1; end <= text.length(); end++) {
            Matcher m = COURT.matcher(text.substring(0, end));
            if (!m.matches() && !m.hitEnd()) {
                return end - 1;
            }
        }
        return COURT.matcher(text).matches() ? NONE : text.length();
    }

    private static Integer word(char letter) {
        return letter == '-' ? null : "abcd".indexOf(letter);
    }

    int court() {
        if (!COURT.matcher(text).matches()) {
            return STATE;
        }
        clerks = new ArrayList<>();
        for (String one : text.substring(1).split("K")) {
            if (!one.isEmpty()) {
                Clerk c = new Clerk();
                c.drops = word(one.charAt(0));
                c.from = word(one.charAt(1));
                c.to = word(one.charAt(2));
                c.tires = Character.getNumericValue(one.charAt(3));
                c.copies = one.charAt(4) == '-' ? null : Integer.valueOf(one.substring(4));
                clerks.add(c);
            }
        }
        trial = new ArrayList<>();
        acts.clear();
        Arrays.fill(slots, null);
        return clerks.size();
    }

    private static List<Integer> writes(Clerk c, List<Integer> row) {
        List<Integer> page = new ArrayList<>();
        Set<Integer> tired = new HashSet<>();
        for (int place = c.tires + 1; place < 100; place += 2) {
            tired.add(place);
        }
        for (int place = 0; place < row.size(); place++) {
            Integer w = row.get(place);
            if (tired.contains(place) || w.equals(c.drops)) {
                continue;
            }
            page.add(w.equals(c.from) ? c.to : w);
        }
        return page;
    }

    private List<Integer> pageOf(int clerk, List<Integer> row) {
        Clerk c = clerks.get(clerk);
        return writes(c, c.copies == null ? row : pageOf(c.copies, row));
    }

    int clerk(int clerk, int what) {
        if (unknown(clerk)) {
            return UNKNOWN;
        }
        Clerk c = clerks.get(clerk);
        int[] answers = {orNone(c.drops), orNone(c.from), orNone(c.to), c.tires, orNone(c.copies),
            pageOf(clerk, trial).size(), c.told == null ? NONE : c.told.size()};
        return what < 0 || what > 6 ? OUTSIDE : answers[what];
    }

    int page(int clerk, int place) {
        if (unknown(clerk)) {
            return UNKNOWN;
        }
        List<Integer> page = pageOf(clerk, trial);
        return place < 0 || place >= page.size() ? NONE : page.get(place);
    }

    int trial(int place) {
        return place < 0 || place >= trial.size() ? NONE : trial.get(place);
    }

    private void act() {
        acts.addLast(new Kept(trial, clerks));
        if (acts.size() > 16) {
            acts.removeFirst();
        }
    }

    int speak(int word) {
        if (word < 0 || word > 3) {
            return OUTSIDE;
        }
        if (trial.size() == 6) {
            return FULL;
        }
        act();
        trial.add(word);
        return trial.size();
    }

    int strike() {
        if (trial.isEmpty()) {
            return STATE;
        }
        act();
        return trial.remove(trial.size() - 1);
    }

    int reform(int clerk) {
        if (unknown(clerk)) {
            return UNKNOWN;
        }
        Clerk c = clerks.get(clerk);
        if (c.from == null) {
            return STATE;
        }
        act();
        int from = c.from;
        c.from = null;
        c.to = null;
        return from;
    }

    int seat(int clerk, int other) {
        if (unknown(clerk)) {
            return UNKNOWN;
        }
        if (other != NONE && !(other >= 0 && other < clerk)) {
            return OUTSIDE;
        }
        Clerk c = clerks.get(clerk);
        int before = orNone(c.copies);
        if (before == other) {
            return STATE;
        }
        act();
        c.copies = other == NONE ? null : other;
        return before;
    }

    /** What is told is not kept, nor undone. */
    private void back(Kept kept) {
        trial = new ArrayList<>(kept.trial);
        for (int i = 0; i < clerks.size(); i++) {
            clerks.get(i).from = kept.clerks.get(i).from;
            clerks.get(i).to = kept.clerks.get(i).to;
            clerks.get(i).copies = kept.clerks.get(i).copies;
        }
    }

    int undo() {
        if (acts.isEmpty()) {
            return STATE;
        }
        back(acts.removeLast());
        return acts.size();
    }

    int open(int clerk) {
        int before = untell(clerk);
        if (before != UNKNOWN) {
            clerks.get(clerk).told = List.of();
        }
        return before;
    }

    int tell(int clerk, int word) {
        if (unknown(clerk)) {
            return UNKNOWN;
        }
        if (word < 0 || word > 3) {
            return OUTSIDE;
        }
        Clerk c = clerks.get(clerk);
        if (c.told == null) {
            return STATE;
        }
        if (c.told.size() == 6) {
            return FULL;
        }
        c.told = new ArrayList<>(c.told);
        c.told.add(word);
        return c.told.size();
    }

    int untell(int clerk) {
        if (unknown(clerk)) {
            return UNKNOWN;
        }
        List<Integer> before = clerks.get(clerk).told;
        clerks.get(clerk).told = null;
        return before == null ? NONE : before.size();
    }

    private static List<List<Integer>> rows(int n) {
        List<List<Integer>> rows = List.of(List.of());
        for (int i = 0; i < n; i++) {
            List<List<Integer>> longer = new ArrayList<>();
            for (List<Integer> row : rows) {
                for (int w = 0; w < 4; w++) {
                    List<Integer> one = new ArrayList<>(row);
                    one.add(w);
                    longer.add(one);
                }
            }
            rows = longer;
        }
        return rows;
    }

    private List<List<Integer>> fitting(int n) {
        List<List<Integer>> found = new ArrayList<>();
        for (List<Integer> row : rows(n)) {
            boolean fits = true;
            for (int i = 0; i < clerks.size(); i++) {
                List<Integer> told = clerks.get(i).told;
                fits &= told == null || told.equals(pageOf(i, row));
            }
            if (fits) {
                found.add(row);
            }
        }
        return found;
    }

    int fits(int n) {
        return n < 0 || n > 5 ? OUTSIDE : fitting(n).size();
    }

    int least(int n) {
        if (n < 0 || n > 5) {
            return OUTSIDE;
        }
        int least = NONE;
        for (List<Integer> row : fitting(n)) {
            int figures = 0;
            for (int w : row) {
                figures = figures * 10 + w + 1;
            }
            least = least == NONE ? figures : Math.min(least, figures);
        }
        return least;
    }

    int sure(int n, int place) {
        if (n < 1 || n > 5 || place < 0 || place >= n) {
            return OUTSIDE;
        }
        Set<Integer> words = new HashSet<>();
        for (List<Integer> row : fitting(n)) {
            words.add(row.get(place));
        }
        return words.size() == 1 ? words.iterator().next() : NONE;
    }

    private static int fraction(long above, long below, boolean upper) {
        for (long by = below; by > 1; by--) {
            if (above % by == 0 && below % by == 0) {
                above /= by;
                below /= by;
            }
        }
        return (int) (upper ? above : below);
    }

    int likely(int n, int place, int word, boolean upper) {
        if (n < 1 || n > 5 || place < 0 || place >= n || word < 0 || word > 3) {
            return OUTSIDE;
        }
        List<List<Integer>> all = fitting(n);
        if (all.isEmpty()) {
            return STATE;
        }
        int such = 0;
        for (List<Integer> row : all) {
            such += row.get(place) == word ? 1 : 0;
        }
        return fraction(such, all.size(), upper);
    }

    int toRead(int n) {
        if (n < 0 || n > 5) {
            return OUTSIDE;
        }
        List<List<Integer>> all = fitting(n);
        int best = NONE;
        int fewest = Integer.MAX_VALUE;
        for (int i = 0; i < clerks.size() && !all.isEmpty(); i++) {
            if (clerks.get(i).told == null) {
                Map<List<Integer>, Integer> parts = new HashMap<>();
                int most = 0;
                for (List<Integer> row : all) {
                    most = Math.max(most, parts.merge(pageOf(i, row), 1, Integer::sum));
                }
                if (most < fewest) {
                    fewest = most;
                    best = i;
                }
            }
        }
        return best;
    }

    private List<Integer> fittingHabits(List<Integer> told) {
        Integer[] wordOrNone = {null, 0, 1, 2, 3};
        List<Integer> found = new ArrayList<>();
        for (int drops = 0; drops <= 4; drops++) {
            for (int from = 0; from <= 4; from++) {
                for (int to = 0; to <= 4; to++) {
                    if ((from == 0) != (to == 0) || from != 0 && from == to) {
                        continue;
                    }
                    for (int tires = 0; tires <= 9; tires++) {
                        Clerk c = new Clerk();
                        c.drops = wordOrNone[drops];
                        c.from = wordOrNone[from];
                        c.to = wordOrNone[to];
                        c.tires = tires;
                        if (writes(c, trial).equals(told)) {
                            found.add(Integer.parseInt("" + drops + from + to + tires));
                        }
                    }
                }
            }
        }
        return found;
    }

    int habits(int clerk) {
        if (unknown(clerk)) {
            return UNKNOWN;
        }
        List<Integer> told = clerks.get(clerk).told;
        return told == null ? STATE : fittingHabits(told).size();
    }

    int habit(int clerk) {
        if (unknown(clerk)) {
            return UNKNOWN;
        }
        List<Integer> told = clerks.get(clerk).told;
        if (told == null) {
            return STATE;
        }
        List<Integer> found = fittingHabits(told);
        return found.isEmpty() ? NONE : found.get(0);
    }

    private boolean copiesFrom(int one, int other) {
        Integer next = clerks.get(one).copies;
        return next != null && (next == other || copiesFrom(next, other));
    }

    int copied(int clerk) {
        if (unknown(clerk)) {
            return UNKNOWN;
        }
        Clerk c = clerks.get(clerk);
        if (c.told == null) {
            return STATE;
        }
        int bits = writes(c, trial).equals(c.told) ? 16 : 0;
        for (int i = 0; i < clerks.size(); i++) {
            if (i != clerk && !copiesFrom(i, clerk) && writes(c, pageOf(i, trial)).equals(c.told)) {
                bits += 1 << i;
            }
        }
        return bits;
    }

    private static int orders(List<List<Integer>> left, List<Integer> laid, List<Integer> told) {
        if (left.isEmpty()) {
            return laid.equals(told) ? 1 : 0;
        }
        int found = 0;
        for (int i = 0; i < left.size(); i++) {
            List<List<Integer>> rest = new ArrayList<>(left);
            List<Integer> longer = new ArrayList<>(laid);
            longer.addAll(rest.remove(i));
            found += orders(rest, longer, told);
        }
        return found;
    }

    int leaves(int clerk) {
        if (unknown(clerk)) {
            return UNKNOWN;
        }
        if (clerks.get(clerk).told == null) {
            return NONE;
        }
        List<Integer> page = pageOf(clerk, trial);
        List<List<Integer>> leaves = new ArrayList<>();
        for (int i = 0; i < page.size(); i += 2) {
            leaves.add(page.subList(i, Math.min(i + 2, page.size())));
        }
        return orders(leaves, List.of(), clerks.get(clerk).told);
    }

    private List<List<Integer>> pagesOf(int set, List<Integer> row) {
        List<List<Integer>> pages = new ArrayList<>();
        for (int i = 0; i < clerks.size(); i++) {
            if ((set & 1 << i) != 0) {
                pages.add(pageOf(i, row));
            }
        }
        return pages;
    }

    private int unlike(int set, int n) {
        Set<List<List<Integer>>> seen = new HashSet<>();
        for (List<Integer> row : rows(n)) {
            seen.add(pagesOf(set, row));
        }
        return seen.size();
    }

    int fewest(int n) {
        if (n < 0 || n > 5) {
            return OUTSIDE;
        }
        int best = NONE;
        for (int set = 0; set < 1 << clerks.size(); set++) {
            boolean fewer = best == NONE || Integer.bitCount(set) < Integer.bitCount(best);
            if (fewer && unlike(set, n) == 1 << 2 * n) {
                best = set;
            }
        }
        return best;
    }

    int blind(int n) {
        return n < 0 || n > 5 ? OUTSIDE : (1 << 2 * n) - unlike(15, n);
    }

    int whom(int n) {
        if (n < 0 || n > 5) {
            return OUTSIDE;
        }
        int best = NONE;
        int least = blind(n);
        for (int i = 0; i < clerks.size(); i++) {
            Clerk before = clerks.get(i);
            Clerk after = before.copy();
            after.from = null;
            after.to = null;
            clerks.set(i, after);
            int blind = blind(n);
            clerks.set(i, before);
            if (blind < least) {
                least = blind;
                best = i;
            }
        }
        return best;
    }

    int lost(int x, boolean upper) {
        if (x < 0 || x > 10) {
            return OUTSIDE;
        }
        if (trial.size() == 6) {
            return STATE;
        }
        long above = 0;
        long below = 1;
        for (int i = 0; i < clerks.size(); i++) {
            below *= 10;
        }
        for (int set = 0; set < 1 << clerks.size(); set++) {
            List<List<Integer>> mine = pagesOf(set, trial);
            int same = 0;
            for (List<Integer> row : rows(trial.size())) {
                same += pagesOf(set, row).equals(mine) ? 1 : 0;
            }
            long chance = 1;
            for (int i = 0; i < clerks.size(); i++) {
                chance *= (set & 1 << i) != 0 ? 10 - x : x;
            }
            above += same == 1 ? chance : 0;
        }
        return fraction(above, below, upper);
    }

    long seed(long v) {
        long before = seed;
        seed = v;
        return before;
    }

    int days(int m, int n) {
        if (m < 1 || m > 30 || n < 1 || n > 6) {
            return OUTSIDE;
        }
        int words = 0;
        for (int day = 0; day < m; day++) {
            List<Integer> row = new ArrayList<>();
            for (int i = 0; i < n; i++) {
                seed = seed * 6364136223846793005L + 1442695040888963407L;
                row.add((int) (Long.divideUnsigned(seed, 1L << 33) % 4));
            }
            for (int i = 0; i < clerks.size(); i++) {
                words += pageOf(i, row).size();
            }
        }
        return words;
    }

    int keep(int slot) {
        if (slot < 0 || slot > 1) {
            return UNKNOWN;
        }
        slots[slot] = new Kept(trial, clerks);
        return trial.size();
    }

    int again(int slot) {
        if (slot < 0 || slot > 1) {
            return UNKNOWN;
        }
        if (slots[slot] == null) {
            return STATE;
        }
        back(slots[slot]);
        acts.clear();
        return trial.size();
    }

    int count(int what) {
        int told = 0;
        int words = 0;
        for (int i = 0; i < clerks.size(); i++) {
            told += clerks.get(i).told == null ? 0 : 1 << i;
            words += pageOf(i, trial).size();
        }
        int[] answers = {text.length(), clerks.size(), trial.size(), acts.size(), told, words};
        return what < 0 || what > 5 ? OUTSIDE : answers[what];
    }
}
