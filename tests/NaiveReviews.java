import java.util.ArrayList;
import java.util.HashMap;
import java.util.List;
import java.util.Map;
import java.util.TreeMap;
import java.util.TreeSet;
import java.util.regex.Pattern;

/**
 * The document once more, with lists and maps and in the slowest way, to compare with.
 * A call answers a Long, a Double, a Float, or the name of the exception that it throws.
 */
final class NaiveReviews {
    static final class Paper {
        int topic;
        TreeSet<Integer> authors = new TreeSet<>();
        TreeMap<Integer, Integer> reviews = new TreeMap<>();
        int discussions;
        boolean rebutted;
        int verdict;

        Paper copy() {
            Paper p = new Paper();
            p.topic = topic;
            p.authors = new TreeSet<>(authors);
            p.reviews = new TreeMap<>(reviews);
            p.discussions = discussions;
            p.rebutted = rebutted;
            p.verdict = verdict;
            return p;
        }

        TreeMap<Integer, Integer> written() {
            TreeMap<Integer, Integer> found = new TreeMap<>(reviews);
            found.values().removeIf(v -> v == 10);
            return found;
        }

        int sum() {
            return written().values().stream().mapToInt(v -> v).sum();
        }

        int spread() {
            int greatest = 0;
            for (int a : written().values()) {
                for (int b : written().values()) {
                    greatest = Math.max(greatest, a - b);
                }
            }
            return greatest;
        }

        int nearer() {
            int m = Math.floorDiv(sum(), written().size());
            int changed = 0;
            for (Map.Entry<Integer, Integer> e : written().entrySet()) {
                if (e.getValue() != m) {
                    reviews.put(e.getKey(), e.getValue() + (e.getValue() < m ? 1 : -1));
                    changed++;
                }
            }
            return changed;
        }
    }

    static final class World {
        List<Paper> papers = new ArrayList<>();
        long[] tokens = new long[8];
        long[] got = new long[8];
        long[] spent = new long[8];
        long[] dropped = new long[8];
        int[] topics = {15, 15, 15, 15, 15, 15, 15, 15};
        TreeSet<String> pairs = new TreeSet<>();
        int[] settings = {3, 1, 4, 1};
        long weeks;
        long pool = 100;
        long brought;
        long refused;

        World copy() {
            World w = new World();
            for (Paper p : papers) {
                w.papers.add(p.copy());
            }
            w.tokens = tokens.clone();
            w.got = got.clone();
            w.spent = spent.clone();
            w.dropped = dropped.clone();
            w.topics = topics.clone();
            w.pairs = new TreeSet<>(pairs);
            w.settings = settings.clone();
            w.weeks = weeks;
            w.pool = pool;
            w.brought = brought;
            w.refused = refused;
            return w;
        }
    }

    private static final String INDEX = "IndexOutOfBoundsException";
    private static final String ARGUMENT = "IllegalArgumentException";
    private static final String STATE = "IllegalStateException";
    private static final Pattern WEEK = Pattern.compile(
            "(?:[tx][0-7]{2}|s[0-7]{2}=[0-9]|[dr][0-7]|w)(?:;(?:[tx][0-7]{2}|s[0-7]{2}=[0-9]|[dr][0-7]|w))*");
    private static final String[] ENDS = {"", "w", "0", "00", "00=0", "0=0", "=0"};

    World w = new World();
    List<World> saved = new ArrayList<>();
    World[] slots = new World[2];
    String buffer = "";

    Object call(String name, int a, int b, int c) {
        switch (name) {
            case "paper":
                return addPaper(a, b);
            case "topics":
                return !person(a) ? INDEX : b < 0 || b > 15 ? ARGUMENT : changeTopics(a, b);
            case "meet":
                return !person(a) || !person(b) ? INDEX : a == b ? ARGUMENT : toggle(a, b);
            case "set":
                return change(a, b);
            case "bring":
                return bringIn(a);
            case "week":
                return w.weeks >= 999 ? STATE : saveThen() + weekGoes();
            case "take":
                return !person(a) || !known(b) ? INDEX : (Object) (saveThen() + takes(a, b));
            case "write":
                return writes(a, b, c);
            case "drop":
                return drops(a, b);
            case "discuss":
                return !known(a) ? INDEX : (Object) (saveThen() + discusses(a));
            case "rebut":
                return !known(a) ? INDEX : (Object) (saveThen() + rebuts(a));
            case "decide":
                return decides(a);
            case "append":
                return appends(a);
            case "clearBuffer":
                long length = buffer.length();
                buffer = "";
                return length;
            case "firstError":
                return first();
            case "run":
                return runs();
            case "keep":
                return keeps(a);
            case "goBack":
                return goesBack(a);
            case "undo":
                return undoes();
            default:
                return look(name, a, b);
        }
    }

    private boolean person(int p) {
        return p >= 0 && p < 8;
    }

    private boolean known(int q) {
        return q >= 0 && q < w.papers.size();
    }

    private long saveThen() {
        saved.add(w.copy());
        if (saved.size() > 6) {
            saved.remove(0);
        }
        return 0L;
    }

    private Object addPaper(int topic, int authors) {
        if (topic < 0 || topic > 3 || authors < 1 || authors > 255) {
            return ARGUMENT;
        }
        if (w.papers.size() == 8) {
            return STATE;
        }
        saveThen();
        Paper p = new Paper();
        p.topic = topic;
        for (int i = 0; i < 8; i++) {
            if ((authors & 1 << i) != 0) {
                p.authors.add(i);
            }
        }
        w.papers.add(p);
        return w.papers.size() - 1L;
    }

    private Object changeTopics(int p, int topics) {
        saveThen();
        long before = w.topics[p];
        w.topics[p] = topics;
        return before;
    }

    private static String pair(int a, int b) {
        return Math.min(a, b) + "-" + Math.max(a, b);
    }

    private Object toggle(int a, int b) {
        saveThen();
        if (w.pairs.remove(pair(a, b))) {
            return 0L;
        }
        w.pairs.add(pair(a, b));
        return 1L;
    }

    private Object change(int setting, int value) {
        if (setting < 0 || setting > 3) {
            return INDEX;
        }
        int least = setting == 0 ? 1 : 0;
        int greatest = setting == 0 ? 4 : setting == 1 ? 2 : setting == 2 ? 9 : 3;
        if (value < least || value > greatest) {
            return ARGUMENT;
        }
        saveThen();
        long before = w.settings[setting];
        w.settings[setting] = value;
        return before;
    }

    private Object bringIn(int tokens) {
        if (tokens < 1 || tokens > 999) {
            return ARGUMENT;
        }
        if (w.brought + tokens > 9999) {
            return STATE;
        }
        saveThen();
        w.brought += tokens;
        w.pool += tokens;
        return w.pool;
    }

    private long weekGoes() {
        long given = 0;
        for (int p = 0; p < 8; p++) {
            if (w.pool < w.settings[2]) {
                break;
            }
            w.pool -= w.settings[2];
            w.tokens[p] += w.settings[2];
            w.got[p] += w.settings[2];
            given += w.settings[2];
        }
        w.weeks++;
        return given;
    }

    private boolean conflict(int p, int q) {
        TreeSet<Integer> authors = w.papers.get(q).authors;
        if (authors.contains(p)) {
            return true;
        }
        for (int a : authors) {
            if (w.settings[1] >= 1 && w.pairs.contains(pair(p, a))) {
                return true;
            }
            for (int s = 0; s < 8; s++) {
                if (w.settings[1] == 2 && w.pairs.contains(pair(p, s)) && w.pairs.contains(pair(s, a))) {
                    return true;
                }
            }
        }
        return false;
    }

    private long why(int p, int q) {
        Paper x = w.papers.get(q);
        return x.verdict != 0 ? 1
                : x.reviews.containsKey(p) ? 2
                : x.reviews.size() >= w.settings[0] ? 3
                : conflict(p, q) ? 4
                : (w.topics[p] & 1 << x.topic) == 0 ? 5
                : w.tokens[p] < 2 ? 6 : 0;
    }

    private long takes(int p, int q) {
        long reason = why(p, q);
        if (reason != 0) {
            w.refused++;
            return reason;
        }
        w.papers.get(q).reviews.put(p, 10);
        pay(p, 2);
        return 0;
    }

    private void pay(int p, int tokens) {
        w.tokens[p] -= tokens;
        w.spent[p] += tokens;
    }

    private Object writes(int p, int q, int score) {
        if (!person(p) || !known(q)) {
            return INDEX;
        }
        if (score < 0 || score > 9) {
            return ARGUMENT;
        }
        if (!w.papers.get(q).reviews.containsKey(p) || w.papers.get(q).verdict != 0) {
            return STATE;
        }
        saveThen();
        w.papers.get(q).reviews.put(p, score);
        return (long) w.papers.get(q).written().size();
    }

    private Object drops(int p, int q) {
        if (!person(p) || !known(q)) {
            return INDEX;
        }
        if (w.papers.get(q).reviews.getOrDefault(p, -1) != 10) {
            return STATE;
        }
        saveThen();
        dropsSurely(p, q);
        return w.tokens[p];
    }

    private void dropsSurely(int p, int q) {
        w.papers.get(q).reviews.remove(p);
        pay(p, -1);
        w.dropped[p]++;
    }

    private long discusses(int q) {
        Paper x = w.papers.get(q);
        long reason = x.verdict != 0 ? 1 : x.written().size() < 2 ? 2 : 0;
        for (int p : x.written().keySet()) {
            reason = reason == 0 && w.tokens[p] == 0 ? 3 : reason;
        }
        if (reason != 0) {
            w.refused++;
            return reason;
        }
        for (int p : x.written().keySet()) {
            pay(p, 1);
        }
        x.discussions++;
        return 10 + x.nearer();
    }

    private long rebuts(int q) {
        Paper x = w.papers.get(q);
        long reason = x.verdict != 0 ? 1 : x.written().isEmpty() ? 2 : x.rebutted ? 3 : 0;
        if (reason != 0) {
            w.refused++;
            return reason;
        }
        int least = x.written().values().stream().mapToInt(v -> v).min().getAsInt();
        int lowest = x.written().entrySet().stream().filter(e -> e.getValue() == least).findFirst().get().getKey();
        x.reviews.put(lowest, Math.min(9, least + w.settings[3]));
        x.rebutted = true;
        long given = 0;
        for (int p : x.written().keySet()) {
            if (w.pool > 0) {
                w.pool--;
                w.tokens[p]++;
                w.got[p]++;
                given++;
            }
        }
        return 10 + given;
    }

    private boolean decidable(Paper x) {
        return x.verdict == 0 && x.written().size() >= w.settings[0] && x.written().size() == x.reviews.size();
    }

    private Object decides(int q) {
        if (!known(q)) {
            return INDEX;
        }
        Paper x = w.papers.get(q);
        if (!decidable(x)) {
            return STATE;
        }
        saveThen();
        x = w.papers.get(q);
        x.verdict = x.sum() >= 6 * x.written().size() ? 2 : 1;
        return x.verdict - 1L;
    }

    private Object appends(int code) {
        if (code < 33 || code > 126) {
            return ARGUMENT;
        }
        if (buffer.length() == 60) {
            return STATE;
        }
        buffer += (char) code;
        return (long) buffer.length();
    }

    /** A beginning is sound if one of a few ends makes it a whole week. */
    private long first() {
        for (int length = 1; length <= buffer.length(); length++) {
            boolean sound = false;
            for (String end : ENDS) {
                sound |= WEEK.matcher(buffer.substring(0, length) + end).matches();
            }
            if (!sound) {
                return length - 1;
            }
        }
        return buffer.length();
    }

    private Object runs() {
        if (!WEEK.matcher(buffer).matches()) {
            return ARGUMENT;
        }
        saveThen();
        long done = 0;
        for (String order : buffer.split(";")) {
            if (!orderDone(order)) {
                break;
            }
            done++;
        }
        buffer = "";
        return done;
    }

    private boolean orderDone(String order) {
        int[] d = new int[5];
        for (int i = 1; i < order.length(); i++) {
            d[i] = order.charAt(i) - '0';
        }
        switch (order.charAt(0)) {
            case 't':
                return known(d[2]) && takes(d[1], d[2]) == 0;
            case 's':
                if (!known(d[2]) || !w.papers.get(d[2]).reviews.containsKey(d[1]) || w.papers.get(d[2]).verdict != 0) {
                    return false;
                }
                w.papers.get(d[2]).reviews.put(d[1], d[4]);
                return true;
            case 'x':
                if (!known(d[2]) || w.papers.get(d[2]).reviews.getOrDefault(d[1], -1) != 10) {
                    return false;
                }
                dropsSurely(d[1], d[2]);
                return true;
            case 'd':
                return known(d[1]) && discusses(d[1]) >= 10;
            case 'r':
                return known(d[1]) && rebuts(d[1]) >= 10;
            default:
                if (w.weeks >= 999) {
                    return false;
                }
                weekGoes();
                return true;
        }
    }

    private Object keeps(int slot) {
        if (slot != 0 && slot != 1) {
            return ARGUMENT;
        }
        slots[slot] = w.copy();
        return (long) w.papers.size();
    }

    private Object goesBack(int slot) {
        if (slot != 0 && slot != 1) {
            return ARGUMENT;
        }
        if (slots[slot] == null) {
            return STATE;
        }
        saveThen();
        w = slots[slot].copy();
        return (long) w.papers.size();
    }

    private Object undoes() {
        if (saved.isEmpty()) {
            return STATE;
        }
        w = saved.remove(saved.size() - 1);
        return (long) saved.size();
    }

    private Object look(String name, int a, int b) {
        switch (name) {
            case "personOf":
                return !person(a) ? INDEX : b < 0 || b > 8 ? ARGUMENT : (Object) ofPerson(a, b);
            case "paperOf":
                return !known(a) ? INDEX : b < 0 || b > 9 ? ARGUMENT : (Object) ofPaper(a, b);
            case "score":
                return !person(a) || !known(b) ? INDEX : (Object) (long) w.papers.get(b).reviews.getOrDefault(a, -1);
            case "count":
                return a < 0 || a > 11 ? ARGUMENT : (Object) counted(a);
            case "setting":
                return a < 0 || a > 3 ? INDEX : (Object) (long) w.settings[a];
            case "whyNot":
                return !person(a) || !known(b) ? INDEX : (Object) why(a, b);
            case "bestReviewer":
                return !known(a) ? INDEX : (Object) best(a);
            case "most":
                return a < 0 || a > 1 ? ARGUMENT : (Object) mostWithout(-1);
            case "needed":
                return neededOne();
            case "roundsToAgree":
                return !known(a) ? INDEX : (Object) roundsOf(a);
            case "meanScore":
                return !known(a) ? INDEX : (Object) mean(a);
            case "spentShare":
                return share();
            case "digest":
                return hash();
            default:
                throw new Error(name);
        }
    }

    private static long mask(Iterable<Integer> bits) {
        long found = 0;
        for (int bit : bits) {
            found |= 1L << bit;
        }
        return found;
    }

    private long ofPerson(int p, int what) {
        TreeSet<Integer> found = new TreeSet<>();
        switch (what) {
            case 0:
                return w.tokens[p];
            case 1:
                return w.topics[p];
            case 2:
                for (int o = 0; o < 8; o++) {
                    if (w.pairs.contains(pair(p, o))) {
                        found.add(o);
                    }
                }
                return mask(found);
            case 3:
                return w.papers.stream().filter(x -> x.verdict == 0 && x.reviews.containsKey(p)).count();
            case 4:
                return w.papers.stream().filter(x -> x.written().containsKey(p)).count();
            case 5:
                return w.got[p];
            case 6:
                return w.spent[p];
            case 7:
                return w.dropped[p];
            default:
                for (int q = 0; q < w.papers.size(); q++) {
                    if (conflict(p, q)) {
                        found.add(q);
                    }
                }
                return mask(found);
        }
    }

    private long ofPaper(int q, int what) {
        Paper x = w.papers.get(q);
        switch (what) {
            case 0:
                return x.topic;
            case 1:
                return mask(x.authors);
            case 2:
                return mask(x.reviews.keySet());
            case 3:
                return mask(x.written().keySet());
            case 4:
                return x.sum();
            case 5:
                return x.spread();
            case 6:
                return x.discussions;
            case 7:
                return x.rebutted ? 1 : 0;
            case 8:
                return x.verdict;
            default:
                return decidable(x) ? 1 : 0;
        }
    }

    private static long sum(long[] row) {
        long all = 0;
        for (long v : row) {
            all += v;
        }
        return all;
    }

    private long counted(int what) {
        long[] all = {w.papers.size(), w.weeks, w.pool, sum(w.spent), sum(w.tokens), 100 + w.brought,
            w.papers.stream().mapToInt(x -> x.reviews.size()).sum(),
            w.papers.stream().mapToInt(x -> x.written().size()).sum(),
            w.papers.stream().filter(x -> x.verdict != 0).count(),
            w.refused, w.pairs.size(), saved.size()};
        return all[what];
    }

    private long best(int q) {
        long found = -1;
        for (int p = 0; p < 8; p++) {
            if (why(p, q) != 0) {
                continue;
            }
            if (found < 0) {
                found = p;
                continue;
            }
            long load = ofPerson(p, 3);
            long least = ofPerson((int) found, 3);
            if (load < least || (load == least && w.tokens[p] > w.tokens[(int) found])) {
                found = p;
            }
        }
        return found;
    }

    /** Paper by paper, each set of persons that can be added; what counts later are the tokens left. */
    private long mostWithout(int absent) {
        long[] tokens = w.tokens.clone();
        if (absent >= 0) {
            tokens[absent] = 0;
        }
        return mostFrom(0, tokens, new HashMap<>());
    }

    private long mostFrom(int q, long[] tokens, Map<String, Long> known) {
        if (q == w.papers.size()) {
            return 0;
        }
        StringBuilder key = new StringBuilder().append(q);
        for (int p = 0; p < 8; p++) {
            key.append(',').append(Math.min(tokens[p] / 2, w.papers.size() - q));
        }
        Long before = known.get(key.toString());
        if (before != null) {
            return before;
        }
        Paper x = w.papers.get(q);
        int can = 0;
        for (int p = 0; p < 8; p++) {
            if (x.verdict == 0 && !x.reviews.containsKey(p) && !conflict(p, q)
                    && (w.topics[p] & 1 << x.topic) != 0 && tokens[p] >= 2) {
                can |= 1 << p;
            }
        }
        int room = Math.max(0, w.settings[0] - x.reviews.size());
        long most = 0;
        for (int set = can; ; set = (set - 1) & can) {
            if (Integer.bitCount(set) == Math.min(room, Integer.bitCount(can))) {
                long[] left = tokens.clone();
                for (int p = 0; p < 8; p++) {
                    left[p] -= (set & 1 << p) != 0 ? 2 : 0;
                }
                most = Math.max(most, Integer.bitCount(set) + mostFrom(q + 1, left, known));
            }
            if (set == 0) {
                break;
            }
        }
        known.put(key.toString(), most);
        return most;
    }

    private long neededOne() {
        long found = 0;
        long least = Long.MAX_VALUE;
        for (int p = 0; p < 8; p++) {
            long without = mostWithout(p);
            if (without < least) {
                least = without;
                found = p;
            }
        }
        return found;
    }

    private long roundsOf(int q) {
        Paper x = w.papers.get(q).copy();
        for (long rounds = 0; rounds <= 20; rounds++) {
            if (x.spread() <= 1) {
                return rounds;
            }
            x.nearer();
        }
        return -1;
    }

    private double mean(int q) {
        Paper x = w.papers.get(q);
        return x.written().isEmpty() ? -1.0 : (double) x.sum() / x.written().size();
    }

    private float share() {
        return (float) sum(w.spent) / (100 + w.brought);
    }

    private long hash() {
        List<Long> all = new ArrayList<>();
        for (int what = 0; what < 12; what++) {
            all.add(counted(what));
        }
        for (int s : w.settings) {
            all.add((long) s);
        }
        for (int p = 0; p < 8; p++) {
            for (int what = 0; what < 9; what++) {
                all.add(ofPerson(p, what));
            }
        }
        for (int q = 0; q < w.papers.size(); q++) {
            for (int what = 0; what < 10; what++) {
                all.add(ofPaper(q, what));
            }
            for (int p = 0; p < 8; p++) {
                all.add((long) w.papers.get(q).reviews.getOrDefault(p, -1));
            }
            all.add(best(q));
            all.add(roundsOf(q));
            all.add(Double.doubleToLongBits(mean(q)));
        }
        all.add(mostWithout(-1));
        all.add(mostWithout(-1));
        all.add(neededOne());
        all.add((long) Float.floatToIntBits(share()));
        all.add(slots[0] == null ? 0L : 1L);
        all.add(slots[1] == null ? 0L : 1L);
        all.add((long) buffer.length());
        for (char c : buffer.toCharArray()) {
            all.add((long) c);
        }
        long hash = 3449;
        for (long v : all) {
            hash = 31 * hash + v;
        }
        return hash;
    }
}
