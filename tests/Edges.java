import java.util.ArrayList;
import java.util.LinkedHashMap;
import java.util.List;
import java.util.Map;
import java.util.TreeSet;

/**
 * Looks at one sentence of the document after the other. A world is made anew for each look, so that no object is
 * used for more calls than the document allows.
 */
final class Edges {
    interface World {
        TokenReviews make();
    }

    interface Call {
        long of(TokenReviews x);
    }

    private final String test;
    private String sentence = "";
    private int sentences = 0;
    private int looked = 0;
    private int lookedBefore = 0;
    private int wrong = 0;

    Edges(String test) {
        this.test = test;
    }

    /** The sentence that the following checks are about. */
    void sentence(String words) {
        leave();
        sentence = words;
        sentences++;
        lookedBefore = looked;
    }

    private void leave() {
        if (sentences > 0 && looked == lookedBefore) {
            fail("nothing was looked at");
        }
    }

    private void fail(String text) {
        wrong++;
        System.out.println(test + ", \"" + sentence + "\": " + text);
    }

    void due(String call, long got, long want) {
        looked++;
        if (got != want) {
            fail(call + " answered " + got + ", due is " + want);
        }
    }

    void dueDouble(String call, double got, double want) {
        looked++;
        if (Double.doubleToLongBits(got) != Double.doubleToLongBits(want)) {
            fail(call + " answered " + got + ", due is " + want);
        }
    }

    /** The answer, and that the call changes just what is told, each as "look before>after", and saves no state. */
    void plain(World world, String call, Call body, long want, String... changes) {
        List<String> due = new ArrayList<>(List.of(changes));
        compare(world, call, body, want, due);
        TokenReviews untouched = world.make();
        TokenReviews x = world.make();
        run(call, body, x, want);
        due(call + ": saved states", x.count(11), untouched.count(11));
        while (untouched.count(11) > 0) {
            x.undo();
            untouched.undo();
            due(call + ": a saved state, papers and refused", x.count(0) * 1000L + x.count(9),
                    untouched.count(0) * 1000L + untouched.count(9));
        }
    }

    /** As plain, but a state is saved, the one from before the call, and the older ones stay, up to six. */
    void undoable(World world, String call, Call body, long want, String... changes) {
        int saved = world.make().count(11);
        List<String> due = new ArrayList<>(List.of(changes));
        if (saved < 6) {
            due.add("count(11) " + saved + ">" + (saved + 1));
        }
        compare(world, call, body, want, due);
        TokenReviews x = world.make();
        run(call, body, x, want);
        TokenReviews untouched = world.make();
        untouched.clearBuffer();
        x.clearBuffer();
        due(call + ": undo", x.undo(), Math.min(saved, 5));
        if (saved < 6) {
            List<Long> undone = whole(x);
            due(call + ": all as before when it is undone", undone.equals(whole(untouched)) ? 1 : 0, 1);
        } else {
            due(call + ": five states are left", x.count(11), 5);
        }
    }

    /** Refused: the reason, and nothing but what was refused so far changes. */
    void refused(World world, String call, Call body, long reason) {
        int before = world.make().count(9);
        undoable(world, call, body, reason, "count(9) " + before + ">" + (before + 1));
    }

    /** Throws just this, and changes nothing, also nothing that only undo() or goBack() would show. */
    void fails(World world, String call, Class<? extends RuntimeException> due, Call body) {
        looked++;
        TokenReviews x = world.make();
        Class<?> got = null;
        try {
            body.of(x);
        } catch (RuntimeException e) {
            got = e.getClass();
        }
        if (got != due) {
            fail(call + " threw " + got + ", due is " + due);
        } else if (!whole(x).equals(whole(world.make()))) {
            fail(call + " threw and changed something");
        }
    }

    void index(World world, String call, Call body) {
        fails(world, call, IndexOutOfBoundsException.class, body);
    }

    void argument(World world, String call, Call body) {
        fails(world, call, IllegalArgumentException.class, body);
    }

    void state(World world, String call, Call body) {
        fails(world, call, IllegalStateException.class, body);
    }

    void end() {
        leave();
        System.out.println(test + ": " + sentences + " sentences, " + looked + " answers, " + wrong + " not as due");
        if (wrong != 0) {
            System.exit(1);
        }
    }

    private void run(String call, Call body, TokenReviews x, long want) {
        try {
            due(call, body.of(x), want);
        } catch (RuntimeException e) {
            fail(call + " threw " + e.getClass());
        }
    }

    private void compare(World world, String call, Call body, long want, List<String> due) {
        Map<String, String> before = looks(world.make());
        TokenReviews x = world.make();
        run(call, body, x, want);
        Map<String, String> after = looks(x);
        TreeSet<String> got = new TreeSet<>();
        for (Map.Entry<String, String> look : after.entrySet()) {
            String old = before.getOrDefault(look.getKey(), "");
            if (!old.equals(look.getValue())) {
                got.add(look.getKey() + " " + old + ">" + look.getValue());
            }
        }
        for (Map.Entry<String, String> look : before.entrySet()) {
            if (!after.containsKey(look.getKey())) {
                got.add(look.getKey() + " " + look.getValue() + ">");
            }
        }
        looked++;
        TreeSet<String> missing = new TreeSet<>(due);
        missing.removeAll(got);
        got.removeAll(due);
        if (!missing.isEmpty() || !got.isEmpty()) {
            fail(call + " changed " + got + ", and did not change " + missing);
        }
    }

    /** The digest now, those of the saved states and those of the snapshots. It uses the object up. */
    static List<Long> whole(TokenReviews x) {
        List<Long> all = new ArrayList<>();
        all.add(x.digest());
        for (int left = x.count(11); left > 0; left--) {
            x.undo();
            all.add(x.digest());
        }
        for (int slot = 0; slot < 2; slot++) {
            try {
                x.goBack(slot);
                all.add(x.digest());
            } catch (IllegalStateException e) {
                all.add(0L);
            }
        }
        return all;
    }

    /** All that can be looked at, by name; the buffer is cleared by it. */
    static Map<String, String> looks(TokenReviews x) {
        Map<String, String> all = new LinkedHashMap<>();
        for (int what = 0; what < 12; what++) {
            all.put("count(" + what + ")", "" + x.count(what));
        }
        for (int setting = 0; setting < 4; setting++) {
            all.put("setting(" + setting + ")", "" + x.setting(setting));
        }
        for (int person = 0; person < 8; person++) {
            for (int what = 0; what < 9; what++) {
                all.put("personOf(" + person + ", " + what + ")", "" + x.personOf(person, what));
            }
        }
        for (int paper = 0; paper < x.count(0); paper++) {
            lookAtPaper(x, paper, all);
        }
        all.put("most(0)", "" + x.most(0));
        all.put("most(1)", "" + x.most(1));
        all.put("needed()", "" + x.needed());
        all.put("spentShare()", "" + x.spentShare());
        all.put("firstError()", "" + x.firstError());
        all.put("the buffer", "" + x.clearBuffer());
        return all;
    }

    private static void lookAtPaper(TokenReviews x, int paper, Map<String, String> all) {
        for (int what = 0; what < 10; what++) {
            all.put("paperOf(" + paper + ", " + what + ")", "" + x.paperOf(paper, what));
        }
        for (int person = 0; person < 8; person++) {
            all.put("score(" + person + ", " + paper + ")", "" + x.score(person, paper));
            all.put("whyNot(" + person + ", " + paper + ")", "" + x.whyNot(person, paper));
        }
        all.put("bestReviewer(" + paper + ")", "" + x.bestReviewer(paper));
        all.put("roundsToAgree(" + paper + ")", "" + x.roundsToAgree(paper));
        all.put("meanScore(" + paper + ")", "" + x.meanScore(paper));
    }

    /** Far below and far above each range. */
    static final int[] FAR = {Integer.MIN_VALUE, -1000, -1, 1000, Integer.MAX_VALUE};

    /**
     * A new object on which the orders are done: those of a week's text, "p" with a topic and an author for a paper,
     * "o" with a person and topics (a hexadecimal digit), "m" for meet, "c" for set, "D" for decide, "k" for keep,
     * "b" for goBack, "u" for undo.
     */
    static TokenReviews after(String orders) {
        return more(new TokenReviews(), orders);
    }

    static TokenReviews more(TokenReviews x, String orders) {
        for (String order : orders.split(" ")) {
            if (!order.isEmpty()) {
                does(x, order, digit(order, 1), digit(order, 2));
            }
        }
        return x;
    }

    private static int digit(String order, int at) {
        return order.length() > at ? Character.digit(order.charAt(at), 16) : 0;
    }

    private static void does(TokenReviews x, String order, int a, int b) {
        switch (order.charAt(0)) {
            case 'p': x.paper(a, 1 << b); break;
            case 'o': x.topics(a, b); break;
            case 'm': x.meet(a, b); break;
            case 'c': x.set(a, b); break;
            case 'D': x.decide(a); break;
            case 'k': x.keep(a); break;
            case 'b': x.goBack(a); break;
            case 'u': x.undo(); break;
            case 't': x.take(a, b); break;
            case 's': x.write(a, b, digit(order, 4)); break;
            case 'x': x.drop(a, b); break;
            case 'd': x.discuss(a); break;
            case 'r': x.rebut(a); break;
            case 'w': x.week(); break;
            default: throw new Error(order);
        }
    }

    /** Puts the text into the buffer, behind what is there. */
    static TokenReviews typed(TokenReviews x, String text) {
        for (int i = 0; i < text.length(); i++) {
            x.append(text.charAt(i));
        }
        return x;
    }
}
