/** The boundary cases of promises 1 to 13: a new object, and the calls that change persons, papers and reviews. */
public final class CallsEdgesTest {
    private static final Edges EDGES = new Edges("CallsEdgesTest");

    public static void main(String[] args) {
        newObject();
        paper();
        topics();
        meet();
        set();
        bring();
        bringAtTheEnd();
        undoneBrings();
        week();
        take();
        write();
        drop();
        discuss();
        rebut();
        decide();
        changesNothing();
        EDGES.end();
    }

    private static TokenReviews after(String orders) {
        return Edges.after(orders);
    }

    private static void newObject() {
        EDGES.sentence("1: Creates 8 persons without tokens, a pool of 100, with empty slots and an empty buffer");
        TokenReviews x = new TokenReviews();
        for (int what = 0; what < 12; what++) {
            EDGES.due("count(" + what + ")", x.count(what), what == 2 || what == 5 ? 100 : 0);
        }
        for (int person = 0; person < 8; person++) {
            for (int what = 0; what < 9; what++) {
                EDGES.due("personOf(" + person + ", " + what + ")", x.personOf(person, what), what == 1 ? 15 : 0);
            }
        }
        EDGES.state(TokenReviews::new, "goBack(0)", y -> y.goBack(0));
        EDGES.state(TokenReviews::new, "goBack(1)", y -> y.goBack(1));
        EDGES.due("clearBuffer()", x.clearBuffer(), 0);
        EDGES.due("firstError()", x.firstError(), 0);
        EDGES.sentence("a new object has no saved state, and knows nothing of another one");
        EDGES.state(TokenReviews::new, "undo()", TokenReviews::undo);
        TokenReviews other = Edges.typed(after("c29 w p00 m01 o21 t10 k0 k1"), "w;");
        EDGES.due("digest()", new TokenReviews().digest(), x.digest());
        EDGES.due("the other one", other.count(0), 1);
    }

    private static void paper() {
        EDGES.sentence("2: A paper comes. Undoable. Returns its number");
        EDGES.undoable(TokenReviews::new, "paper(3, 130)", x -> x.paper(3, 130), 0,
                "count(0) 0>1", "personOf(1, 8) 0>1", "personOf(7, 8) 0>1", "paperOf(0, 0) >3", "paperOf(0, 1) >130",
                "paperOf(0, 2) >0", "paperOf(0, 3) >0", "paperOf(0, 4) >0", "paperOf(0, 5) >0", "paperOf(0, 6) >0",
                "paperOf(0, 7) >0", "paperOf(0, 8) >0", "paperOf(0, 9) >0",
                "score(0, 0) >-1", "score(1, 0) >-1", "score(2, 0) >-1", "score(3, 0) >-1", "score(4, 0) >-1",
                "score(5, 0) >-1", "score(6, 0) >-1", "score(7, 0) >-1",
                "whyNot(0, 0) >6", "whyNot(1, 0) >4", "whyNot(2, 0) >6", "whyNot(3, 0) >6", "whyNot(4, 0) >6",
                "whyNot(5, 0) >6", "whyNot(6, 0) >6", "whyNot(7, 0) >4",
                "bestReviewer(0) >-1", "roundsToAgree(0) >0", "meanScore(0) >-1.0");
        EDGES.sentence("2: topic: 0 to 3; authors: a mask of persons, 1 to 255; otherwise IllegalArgumentException");
        for (int topic : new int[] {0, 3}) {
            EDGES.due("paper(" + topic + ", 1)", new TokenReviews().paper(topic, 1), 0);
            EDGES.due("paper(" + topic + ", 255)", new TokenReviews().paper(topic, 255), 0);
        }
        for (int bad : new int[] {-1, 4, Integer.MIN_VALUE, Integer.MAX_VALUE}) {
            EDGES.argument(TokenReviews::new, "paper(" + bad + ", 1)", x -> x.paper(bad, 1));
            EDGES.argument(TokenReviews::new, "paper(" + bad + ", 0)", x -> x.paper(bad, 0));
        }
        for (int bad : new int[] {0, -1, 256, Integer.MIN_VALUE, Integer.MAX_VALUE}) {
            EDGES.argument(TokenReviews::new, "paper(0, " + bad + ")", x -> x.paper(0, bad));
        }
        EDGES.sentence("2: IllegalStateException if there are 8");
        EDGES.due("the eighth", after("p00 p00 p00 p00 p00 p00 p00").paper(0, 1), 7);
        Edges.World full = () -> after("p00 p00 p00 p00 p00 p00 p00 p00");
        EDGES.state(full, "the ninth", x -> x.paper(0, 1));
        EDGES.state(full, "the ninth", x -> x.paper(3, 255));
        EDGES.due("after an undo there is room again", Edges.more(full.make(), "u").paper(0, 1), 7);
        EDGES.sentence("2: IllegalArgumentException is named ahead of IllegalStateException");
        EDGES.argument(full, "a ninth, topic -1", x -> x.paper(-1, 1));
        EDGES.argument(full, "a ninth, topic 4", x -> x.paper(4, 1));
        EDGES.argument(full, "a ninth, authors 0", x -> x.paper(0, 0));
        EDGES.argument(full, "a ninth, authors 256", x -> x.paper(0, 256));
        EDGES.sentence("2: a paper that comes where an undone one was has nothing of it");
        TokenReviews x = after("c29 w");
        x.paper(2, 192);
        Edges.more(x, "t00 s00=9 t10 u u u u p13");
        EDGES.due("digest()", x.digest(), sameSaved(x));
    }

    /** The digest of one paper's world that was made straight on, with as many saved states. */
    private static long sameSaved(TokenReviews x) {
        TokenReviews y = after("c29 w p13");
        EDGES.due("saved states", x.count(11), y.count(11));
        return y.digest();
    }

    private static void topics() {
        EDGES.sentence("3: Changes the topics of a person (reviews stay). Undoable. Returns the topics before");
        Edges.World w = () -> after("c29 w p00 t20 o3f");
        EDGES.undoable(w, "topics(2, 0)", x -> x.topics(2, 0), 15, "personOf(2, 1) 15>0");
        EDGES.undoable(w, "topics(3, 14)", x -> x.topics(3, 14), 15, "personOf(3, 1) 15>14", "whyNot(3, 0) 0>5");
        EDGES.undoable(w, "topics that stay", x -> x.topics(3, 15), 15);
        EDGES.due("topics before", after("o25").topics(2, 0), 5);
        EDGES.due("topics before that", after("o25 o20").topics(2, 15), 0);
        TokenReviews x = after("c29 w p00 t20 o20");
        EDGES.due("a review whose topic is none any more is written", x.write(2, 0, 9), 1);
        EDGES.due("and one is dropped", after("c29 w p00 t20 o20").drop(2, 0), 8);
        EDGES.sentence("3: topics: a mask, 0 to 15, otherwise IllegalArgumentException");
        for (int topics = 0; topics < 16; topics++) {
            x = new TokenReviews();
            EDGES.due("topics(7, " + topics + ")", x.topics(7, topics), 15);
            EDGES.due("personOf(7, 1)", x.personOf(7, 1), topics);
        }
        for (int bad : new int[] {-1, 16, 31, Integer.MIN_VALUE, Integer.MAX_VALUE}) {
            EDGES.argument(w, "topics(0, " + bad + ")", y -> y.topics(0, bad));
        }
        EDGES.sentence("3: each topic of the mask counts by itself");
        for (int topic = 0; topic < 4; topic++) {
            for (int topics = 0; topics < 16; topics++) {
                x = after("c29 w p" + topic + "0");
                x.topics(5, topics);
                EDGES.due("whyNot", x.whyNot(5, 0), (topics >> topic & 1) == 1 ? 0 : 5);
            }
        }
        EDGES.sentence("3: IndexOutOfBoundsException is named ahead of IllegalArgumentException");
        EDGES.index(w, "topics(8, 16)", y -> y.topics(8, 16));
        EDGES.index(w, "topics(-1, -1)", y -> y.topics(-1, -1));
    }

    private static void meet() {
        EDGES.sentence("4: Changes whether two persons worked with one another (reviews stay). Undoable. Returns 1 if "
                + "they worked with one another behind it, otherwise 0");
        Edges.World w = () -> after("c29 w p07 t00");
        EDGES.undoable(w, "meet(7, 0)", x -> x.meet(7, 0), 1,
                "count(10) 0>1", "personOf(0, 2) 0>128", "personOf(7, 2) 0>1", "personOf(0, 8) 0>1");
        EDGES.undoable(() -> after("c29 w p07 t00 m70"), "meet(0, 7) once more", x -> x.meet(0, 7), 0,
                "count(10) 1>0", "personOf(0, 2) 128>0", "personOf(7, 2) 1>0", "personOf(0, 8) 1>0");
        EDGES.due("and a third time", after("m70 m07").meet(7, 0), 1);
        EDGES.due("a review in conflict is written", after("c29 w p07 t00 m70").write(0, 0, 5), 1);
        EDGES.due("and one is dropped", after("c29 w p07 t00 m70").drop(0, 0), 8);
        EDGES.sentence("4: each pair by itself, all 28 of them");
        TokenReviews x = new TokenReviews();
        int pairs = 0;
        for (int person = 0; person < 8; person++) {
            for (int other = 0; other < person; other++) {
                EDGES.due("meet", x.meet(person, other), 1);
                pairs++;
                EDGES.due("count(10)", x.count(10), pairs);
            }
        }
        for (int person = 0; person < 8; person++) {
            EDGES.due("personOf(" + person + ", 2)", x.personOf(person, 2), 255 ^ 1 << person);
        }
        EDGES.sentence("4: IndexOutOfBoundsException if there is no such person, the one or the other");
        for (int bad : new int[] {-1, 8, Integer.MIN_VALUE, Integer.MAX_VALUE}) {
            EDGES.index(w, "meet(" + bad + ", 0)", y -> y.meet(bad, 0));
            EDGES.index(w, "meet(0, " + bad + ")", y -> y.meet(0, bad));
        }
        EDGES.sentence("4: IllegalArgumentException if both are the same; IndexOutOfBoundsException is named ahead");
        for (int person = 0; person < 8; person++) {
            int p = person;
            EDGES.argument(w, "meet(" + p + ", " + p + ")", y -> y.meet(p, p));
        }
        for (int bad : new int[] {-1, 8, 9, Integer.MIN_VALUE, Integer.MAX_VALUE}) {
            EDGES.index(w, "meet(" + bad + ", " + bad + ")", y -> y.meet(bad, bad));
        }
    }

    private static void set() {
        EDGES.sentence("5: Changes a setting (what was taken, written and decided stays). Undoable. Returns the previous "
                + "value");
        Edges.World w = () -> after("c29 w p07 t00 t10 s10=6 c01");
        EDGES.undoable(() -> after("c29 p07 w t00"), "set(0, 1)", x -> x.set(0, 1), 3, "setting(0) 3>1",
                "whyNot(1, 0) 0>3", "whyNot(2, 0) 0>3", "whyNot(3, 0) 0>3", "whyNot(4, 0) 0>3", "whyNot(5, 0) 0>3",
                "whyNot(6, 0) 0>3", "whyNot(7, 0) 4>3", "bestReviewer(0) 1>-1", "most(0) 2>0", "most(1) 2>0");
        EDGES.undoable(w, "set(2, 9), as it is", x -> x.set(2, 9), 9);
        EDGES.undoable(w, "set(2, 0)", x -> x.set(2, 0), 9, "setting(2) 9>0");
        EDGES.undoable(w, "set(3, 3)", x -> x.set(3, 3), 1, "setting(3) 1>3");
        EDGES.undoable(() -> after("p07 p00 m21 m10 c10"), "set(1, 2)", x -> x.set(1, 2), 0, "setting(1) 0>2",
                "personOf(1, 8) 0>2", "personOf(2, 8) 0>2", "whyNot(1, 1) 6>4", "whyNot(2, 1) 6>4");
        EDGES.due("a written review of more than setting 0 stays", w.make().score(1, 0), 6);
        EDGES.due("one that is not written stays", w.make().score(0, 0), 10);
        EDGES.due("what is decided stays", Edges.more(w.make(), "s00=6 D0 c04").paperOf(0, 8), 2);
        EDGES.sentence("5: IndexOutOfBoundsException if there is no such setting, ahead of IllegalArgumentException");
        for (int bad : new int[] {-1, 4, 5, Integer.MIN_VALUE, Integer.MAX_VALUE}) {
            EDGES.index(w, "set(" + bad + ", 1)", x -> x.set(bad, 1));
            EDGES.index(w, "set(" + bad + ", -1)", x -> x.set(bad, -1));
            EDGES.index(w, "set(" + bad + ", 10)", x -> x.set(bad, 10));
        }
        EDGES.sentence("5: IllegalArgumentException if value is out of range");
        int[][] bad = {{0, 0}, {0, 5}, {1, -1}, {1, 3}, {2, -1}, {2, 10}, {3, -1}, {3, 4}};
        for (int[] pair : bad) {
            EDGES.argument(w, "set(" + pair[0] + ", " + pair[1] + ")", x -> x.set(pair[0], pair[1]));
        }
        int[][] good = {{0, 1}, {0, 4}, {1, 0}, {1, 2}, {2, 0}, {2, 9}, {3, 0}, {3, 3}};
        int[] first = {3, 1, 4, 1};
        for (int[] pair : good) {
            EDGES.due("set(" + pair[0] + ", " + pair[1] + ")", new TokenReviews().set(pair[0], pair[1]), first[pair[0]]);
        }
    }

    private static void bring() {
        EDGES.sentence("6: Brings tokens into the pool. Undoable. Returns the tokens in the pool then");
        EDGES.undoable(() -> after("c29 w"), "bring(7)", x -> x.bring(7), 35, "count(2) 28>35", "count(5) 100>107");
        EDGES.due("bring(1)", after("w").bring(1), 69);
        EDGES.sentence("6: tokens: 1 to 999, otherwise IllegalArgumentException");
        EDGES.due("bring(1)", new TokenReviews().bring(1), 101);
        EDGES.due("bring(999)", new TokenReviews().bring(999), 1099);
        for (int bad : new int[] {0, -1, 1000, Integer.MIN_VALUE, Integer.MAX_VALUE}) {
            EDGES.argument(TokenReviews::new, "bring(" + bad + ")", x -> x.bring(bad));
        }
    }

    /** 9990 tokens were brought, and so many more. */
    private static TokenReviews brought(int more) {
        TokenReviews x = new TokenReviews();
        for (int times = 0; times < 10; times++) {
            x.bring(999);
        }
        if (more > 0) {
            x.bring(more);
        }
        return x;
    }

    private static void bringAtTheEnd() {
        EDGES.sentence("6: IllegalStateException if more than 9999 would have been brought by all calls of this method");
        EDGES.due("to 9999 at once", brought(0).bring(9), 10099);
        EDGES.due("to 9999", brought(8).bring(1), 10099);
        EDGES.state(() -> brought(0), "to 10000", x -> x.bring(10));
        EDGES.state(() -> brought(0), "to 10989", x -> x.bring(999));
        EDGES.state(() -> brought(9), "from 9999 to 10000", x -> x.bring(1));
        EDGES.state(() -> brought(9), "from 9999 by 999", x -> x.bring(999));
        EDGES.state(() -> brought(8), "from 9998 by 2", x -> x.bring(2));
        EDGES.state(() -> Edges.more(brought(9), "c29 w w w"), "tokens that left the pool count", x -> x.bring(1));
        EDGES.due("the first 100 tokens do not count", brought(9).count(5), 10099);
        TokenReviews x = brought(0);
        for (int times = 0; times < 3; times++) {
            try {
                x.bring(10);
            } catch (IllegalStateException e) {
                EDGES.due("pool", x.count(2), 10090);
            }
        }
        EDGES.due("what was thrown back does not count", x.bring(9), 10099);
        EDGES.sentence("6: IllegalArgumentException is named ahead of IllegalStateException");
        for (int bad : new int[] {0, -1, 1000, Integer.MIN_VALUE, Integer.MAX_VALUE}) {
            EDGES.argument(() -> brought(9), "bring(" + bad + ")", y -> y.bring(bad));
        }
    }

    private static void undoneBrings() {
        EDGES.sentence("Terms: saves the state from before it: all, also what is counted so far");
        TokenReviews x = brought(9);
        x.undo();
        EDGES.due("an undone bring() does not count", x.bring(9), 10099);
        x = new TokenReviews();
        x.keep(0);
        for (int times = 0; times < 10; times++) {
            x.bring(999);
        }
        x.goBack(0);
        EDGES.due("nor those that goBack() leaves out", x.bring(999), 1099);
    }

    private static void week() {
        EDGES.sentence("7: A week goes by. Undoable. Returns how many tokens are given out");
        EDGES.undoable(() -> after("c29 w"), "week()", TokenReviews::week, 27, "count(1) 1>2", "count(2) 28>1",
                "count(4) 72>99", "personOf(0, 0) 9>18", "personOf(0, 5) 9>18", "personOf(1, 0) 9>18",
                "personOf(1, 5) 9>18", "personOf(2, 0) 9>18", "personOf(2, 5) 9>18");
        EDGES.undoable(() -> after("c29 w w"), "a week without enough tokens", TokenReviews::week, 0, "count(1) 2>3");
        EDGES.undoable(() -> after("c20"), "a week of nothing", TokenReviews::week, 0, "count(1) 0>1");
        EDGES.due("a week from an empty pool", after("c25 w w w").week(), 0);
        EDGES.due("eight shares of 9 from 100", after("c29").week(), 72);
        // no object gets there within 512 calls; what it answers then is free, but it is as due all the same
        EDGES.sentence("7: IllegalStateException if 999 weeks went by");
        Edges.World last = () -> {
            TokenReviews x = after("c20 p00");
            for (int weeks = 0; weeks < 998; weeks++) {
                x.week();
            }
            return x;
        };
        EDGES.due("week 999", last.make().week(), 0);
        Edges.World w = () -> Edges.more(last.make(), "w");
        EDGES.due("weeks", w.make().count(1), 999);
        EDGES.state(w, "week 1000", TokenReviews::week);
        TokenReviews x = Edges.typed(last.make(), "w;w;w");
        EDGES.due("run of weeks 999 to 1001", x.run(), 1);
        EDGES.due("weeks", x.count(1), 999);
        EDGES.due("refused", x.count(9), 0);
    }

    private static void take() {
        EDGES.sentence("8: A person takes a review. Undoable, also if it is refused. Returns 0 if it is taken; otherwise "
                + "the reason");
        Edges.World w = () -> after("c29 w p07");
        EDGES.undoable(w, "take(0, 0)", x -> x.take(0, 0), 0,
                "count(3) 0>2", "count(4) 72>70", "count(6) 0>1", "personOf(0, 0) 9>7", "personOf(0, 3) 0>1",
                "personOf(0, 6) 0>2", "paperOf(0, 2) 0>1", "score(0, 0) -1>10", "whyNot(0, 0) 0>2",
                "bestReviewer(0) 0>1", "most(0) 3>2", "most(1) 3>2", "spentShare() 0.0>0.02");
        EDGES.refused(w, "take(7, 0)", x -> x.take(7, 0), 4);
        EDGES.refused(() -> after("c29 w p07 c01 c01 c01 c01"), "a refusal with six saved states", x -> x.take(7, 0), 4);
        EDGES.sentence("8: IndexOutOfBoundsException if there is no such person or paper");
        for (int bad : new int[] {-1, 8, Integer.MIN_VALUE, Integer.MAX_VALUE}) {
            EDGES.index(w, "take(" + bad + ", 0)", x -> x.take(bad, 0));
            EDGES.index(w, "take(0, " + bad + ")", x -> x.take(0, bad));
            EDGES.index(w, "take(" + bad + ", " + bad + ")", x -> x.take(bad, bad));
        }
        EDGES.index(w, "take(0, 1)", x -> x.take(0, 1));
    }

    private static void write() {
        EDGES.sentence("9: A person writes the review of a paper, or mends its score. Undoable. Returns how many written "
                + "reviews the paper has then");
        EDGES.undoable(() -> after("c02 w p07 t00"), "write(0, 0, 0)", x -> x.write(0, 0, 0), 1, "count(7) 0>1",
                "personOf(0, 4) 0>1", "paperOf(0, 3) 0>1", "score(0, 0) 10>0", "meanScore(0) -1.0>0.0");
        EDGES.undoable(() -> after("w p07 t00 s00=9"), "mending", x -> x.write(0, 0, 4), 1,
                "paperOf(0, 4) 9>4", "score(0, 0) 9>4", "meanScore(0) 9.0>4.0");
        EDGES.undoable(() -> after("w p07 t00 s00=9"), "the same score again", x -> x.write(0, 0, 9), 1);
        TokenReviews x = after("c04 w p07 t00 t20 t40 t60");
        EDGES.due("the first", x.write(4, 0, 1), 1);
        EDGES.due("the second", x.write(2, 0, 1), 2);
        EDGES.due("mended", x.write(4, 0, 2), 2);
        EDGES.due("the third", x.write(0, 0, 1), 3);
        EDGES.due("the fourth", x.write(6, 0, 1), 4);
        EDGES.due("a person without tokens writes", after("c22 w p07 t00").write(0, 0, 9), 1);
        Edges.World w = () -> after("w p07 p06 c01 t00 s00=6 D0 t01");
        EDGES.sentence("9: IndexOutOfBoundsException if there is no such person or paper, ahead of the others");
        for (int bad : new int[] {-1, 8, Integer.MIN_VALUE, Integer.MAX_VALUE}) {
            EDGES.index(w, "write(" + bad + ", 1, 5)", y -> y.write(bad, 1, 5));
            EDGES.index(w, "write(0, " + bad + ", 5)", y -> y.write(0, bad, 5));
            EDGES.index(w, "write(" + bad + ", 1, 10)", y -> y.write(bad, 1, 10));
            EDGES.index(w, "write(0, " + bad + ", -1)", y -> y.write(0, bad, -1));
        }
        EDGES.index(w, "write(0, 2, 10)", y -> y.write(0, 2, 10));
        EDGES.sentence("9: IllegalArgumentException if score is out of range, ahead of IllegalStateException");
        for (int bad : new int[] {-1, 10, Integer.MIN_VALUE, Integer.MAX_VALUE}) {
            EDGES.argument(w, "write(0, 1, " + bad + ")", y -> y.write(0, 1, bad));
            EDGES.argument(w, "no review, write(3, 1, " + bad + ")", y -> y.write(3, 1, bad));
            EDGES.argument(w, "decided, write(0, 0, " + bad + ")", y -> y.write(0, 0, bad));
        }
        EDGES.sentence("9: IllegalStateException if the person has no review of the paper, or it is decided");
        EDGES.state(w, "no review", y -> y.write(3, 1, 5));
        EDGES.state(w, "decided", y -> y.write(0, 0, 5));
        EDGES.state(w, "decided, the same score", y -> y.write(0, 0, 6));
        EDGES.state(w, "decided, no review", y -> y.write(3, 0, 5));
        EDGES.state(() -> after("w p07 t00 x00"), "dropped", y -> y.write(0, 0, 5));
        EDGES.state(() -> after("w p07 c01 t00 s00=5 D0"), "turned down", y -> y.write(0, 0, 6));
        EDGES.due("neither", w.make().write(0, 1, 5), 1);
    }

    private static void drop() {
        EDGES.sentence("10: A person drops the review of a paper. Undoable. Returns the tokens of the person then");
        EDGES.undoable(() -> after("c22 w p07 t00"), "drop(0, 0)", x -> x.drop(0, 0), 1,
                "count(3) 2>1", "count(4) 14>15", "count(6) 1>0", "personOf(0, 0) 0>1", "personOf(0, 3) 1>0",
                "personOf(0, 6) 2>1", "personOf(0, 7) 0>1", "paperOf(0, 2) 1>0", "score(0, 0) 10>-1",
                "whyNot(0, 0) 2>6", "most(0) 2>3", "most(1) 2>3", "spentShare() 0.02>0.01");
        Edges.World w = () -> after("w p07 p07 t00 t10 s10=0");
        EDGES.sentence("10: IndexOutOfBoundsException if there is no such person or paper, ahead of the other");
        for (int bad : new int[] {-1, 8, Integer.MIN_VALUE, Integer.MAX_VALUE}) {
            EDGES.index(w, "drop(" + bad + ", 0)", x -> x.drop(bad, 0));
            EDGES.index(w, "drop(0, " + bad + ")", x -> x.drop(0, bad));
        }
        EDGES.index(w, "drop(0, 2)", x -> x.drop(0, 2));
        EDGES.sentence("10: IllegalStateException if the person has no review of the paper that is not written");
        EDGES.state(w, "none", x -> x.drop(2, 0));
        EDGES.state(w, "none of this paper", x -> x.drop(0, 1));
        EDGES.state(w, "a written one", x -> x.drop(1, 0));
        EDGES.state(() -> after("w p07 c01 t00 s00=5 D0"), "a written one of a decided paper", x -> x.drop(0, 0));
        EDGES.state(() -> after("w p07 t00 x00"), "a dropped one", x -> x.drop(0, 0));
        EDGES.due("one that is not written", w.make().drop(0, 0), 3);
    }

    private static void discuss() {
        EDGES.sentence("11: A paper is discussed. Undoable, also if it is refused. Returns 10 and how many scores change; "
                + "if it is refused the reason");
        String four = "c04 w p07 t00 t10 t20 t30 ";
        EDGES.due("none", after(four + "s00=5 s10=5 s20=5 s30=5").discuss(0), 10);
        EDGES.due("one", after(four + "s00=5 s10=5 s20=5 s30=6").discuss(0), 11);
        EDGES.due("two", after(four + "s00=5 s10=4 s20=5 s30=6").discuss(0), 12);
        EDGES.due("three", after(four + "s00=5 s10=3 s20=6 s30=7").discuss(0), 13);
        EDGES.due("all four", after(four + "s00=0 s10=0 s20=9 s30=9").discuss(0), 14);
        EDGES.undoable(() -> after("c04 w p07 t00 t10 s00=5 s10=5"), "discuss that changes no score", x -> x.discuss(0), 10,
                "count(3) 4>6", "count(4) 28>26", "personOf(0, 0) 2>1", "personOf(0, 6) 2>3", "personOf(1, 0) 2>1",
                "personOf(1, 6) 2>3", "paperOf(0, 6) 0>1", "spentShare() 0.04>0.06");
        EDGES.refused(() -> after("w p07 t00 s00=5 c01 D0"), "decided", x -> x.discuss(0), 1);
        EDGES.refused(() -> after("w p07"), "none written", x -> x.discuss(0), 2);
        EDGES.refused(() -> after("c22 w p07 t00 t10 s00=5 s10=5"), "no tokens", x -> x.discuss(0), 3);
        EDGES.sentence("11: IndexOutOfBoundsException if there is no such paper");
        Edges.World w = () -> after("w p07");
        for (int bad : new int[] {-1, 1, 8, Integer.MIN_VALUE, Integer.MAX_VALUE}) {
            EDGES.index(w, "discuss(" + bad + ")", x -> x.discuss(bad));
        }
    }

    private static void rebut() {
        EDGES.sentence("12: The authors of a paper rebut. Undoable, also if it is refused. Returns 10 and how many tokens "
                + "are given as credit; if it is refused the reason");
        EDGES.undoable(() -> after("c25 p07 w w w c30 t00 s00=9"), "without credit or gain", x -> x.rebut(0), 10,
                "paperOf(0, 7) 0>1");
        String four = "c04 w p07 t00 t10 t20 t30 ";
        EDGES.due("one", after(four + "s20=5").rebut(0), 11);
        EDGES.due("four", after(four + "s00=5 s10=5 s20=5 s30=6").rebut(0), 14);
        EDGES.refused(() -> after("w p07 t00 s00=5 c01 D0"), "decided", x -> x.rebut(0), 1);
        EDGES.refused(() -> after("w p07"), "none written", x -> x.rebut(0), 2);
        EDGES.refused(() -> after("w p07 t00 s00=5 r0"), "had one", x -> x.rebut(0), 3);
        EDGES.sentence("12: IndexOutOfBoundsException if there is no such paper");
        Edges.World w = () -> after("w p07");
        for (int bad : new int[] {-1, 1, 8, Integer.MIN_VALUE, Integer.MAX_VALUE}) {
            EDGES.index(w, "rebut(" + bad + ")", x -> x.rebut(bad));
        }
    }

    private static void decide() {
        EDGES.sentence("13: Decides a paper. Undoable. Returns 1 if it is taken on, 0 if it is turned down");
        EDGES.undoable(() -> after("w p07 c01 t00 s00=6"), "decide at 6", x -> x.decide(0), 1, "count(8) 0>1",
                "personOf(0, 3) 1>0", "paperOf(0, 8) 0>2", "paperOf(0, 9) 1>0", "whyNot(0, 0) 2>1", "whyNot(1, 0) 3>1",
                "whyNot(2, 0) 3>1", "whyNot(3, 0) 3>1", "whyNot(4, 0) 3>1", "whyNot(5, 0) 3>1", "whyNot(6, 0) 3>1",
                "whyNot(7, 0) 3>1");
        EDGES.undoable(() -> after("w p07 c01 t00 s00=5"), "decide at 5", x -> x.decide(0), 0, "count(8) 0>1",
                "personOf(0, 3) 1>0", "paperOf(0, 8) 0>1", "paperOf(0, 9) 1>0", "whyNot(0, 0) 2>1", "whyNot(1, 0) 3>1",
                "whyNot(2, 0) 3>1", "whyNot(3, 0) 3>1", "whyNot(4, 0) 3>1", "whyNot(5, 0) 3>1", "whyNot(6, 0) 3>1",
                "whyNot(7, 0) 3>1");
        Edges.World w = () -> after("w p07 p06 c02 t00 s00=6 t10 s10=6 t01 s01=9 t21 D0");
        EDGES.sentence("13: IndexOutOfBoundsException if there is no such paper");
        for (int bad : new int[] {-1, 2, 8, Integer.MIN_VALUE, Integer.MAX_VALUE}) {
            EDGES.index(w, "decide(" + bad + ")", x -> x.decide(bad));
        }
        EDGES.sentence("13: IllegalStateException if it is decided already, or cannot be decided");
        EDGES.state(w, "taken on already", x -> x.decide(0));
        EDGES.state(() -> after("w p07 c01 t00 s00=5 D0"), "turned down already", x -> x.decide(0));
        EDGES.state(w, "one is not written", x -> x.decide(1));
        EDGES.state(() -> after("w p07 c02 t00 s00=6"), "too few", x -> x.decide(0));
        EDGES.due("neither", Edges.more(w.make(), "s21=0").decide(1), 0);
        EDGES.due("undone, decided again", Edges.more(w.make(), "u").decide(0), 1);
    }

    private static void changesNothing() {
        EDGES.sentence("Exceptions: A call that throws an exception changes nothing (the buffer stays as it is, too)");
        Edges.World w = () -> Edges.typed(after("c29 w p07 k0 p06 t00 t10 s10=3 c01 d1 k1 o13 m23"), "w;q");
        EDGES.argument(w, "paper(4, 0)", x -> x.paper(4, 0));
        EDGES.index(w, "topics(8, 1)", x -> x.topics(8, 1));
        EDGES.argument(w, "topics(1, 16)", x -> x.topics(1, 16));
        EDGES.index(w, "meet(2, 8)", x -> x.meet(2, 8));
        EDGES.argument(w, "meet(2, 2)", x -> x.meet(2, 2));
        EDGES.index(w, "set(4, 1)", x -> x.set(4, 1));
        EDGES.argument(w, "set(0, 0)", x -> x.set(0, 0));
        EDGES.argument(w, "bring(0)", x -> x.bring(0));
        EDGES.index(w, "take(0, 2)", x -> x.take(0, 2));
        EDGES.index(w, "write(0, 2, 5)", x -> x.write(0, 2, 5));
        EDGES.argument(w, "write(0, 0, 10)", x -> x.write(0, 0, 10));
        EDGES.state(w, "write(2, 0, 5)", x -> x.write(2, 0, 5));
        EDGES.index(w, "drop(8, 0)", x -> x.drop(8, 0));
        EDGES.state(w, "drop(1, 0)", x -> x.drop(1, 0));
        EDGES.index(w, "discuss(2)", x -> x.discuss(2));
        EDGES.index(w, "rebut(2)", x -> x.rebut(2));
        EDGES.index(w, "decide(2)", x -> x.decide(2));
        EDGES.state(w, "decide(0)", x -> x.decide(0));
        EDGES.argument(w, "append(32)", x -> x.append(32));
        EDGES.argument(w, "run()", TokenReviews::run);
        EDGES.argument(w, "keep(2)", x -> x.keep(2));
        EDGES.argument(w, "goBack(2)", x -> x.goBack(2));
        Edges.World v = () -> Edges.typed(after("c29 w p07 k1 u u u"), "t00");
        EDGES.state(v, "goBack(0)", x -> x.goBack(0));
        EDGES.state(v, "undo()", TokenReviews::undo);
    }
}
