/** The boundary cases of promises 21 to 33: the looks, and what would be. */
public final class LooksEdgesTest {
    private static final Edges EDGES = new Edges("LooksEdgesTest");

    public static void main(String[] args) {
        personOf();
        personProperties();
        loads();
        paperOf();
        paperProperties();
        spreads();
        score();
        count();
        counts();
        setting();
        whyNot();
        bestReviewer();
        bestOfSeveral();
        most();
        mostAtTheEnds();
        mostByExchange();
        needed();
        roundsToAgree();
        roundsOfAllScores();
        meanScore();
        spentShare();
        digest();
        digestOfSlotsAndBuffers();
        EDGES.end();
    }

    private static TokenReviews after(String orders) {
        return Edges.after(orders);
    }

    /** Persons 0, 1 and so on with these scores of paper 0. */
    private static TokenReviews scored(int... scores) {
        TokenReviews x = after("c04 c29 w p07");
        for (int person = 0; person < scores.length; person++) {
            x.take(person, 0);
            x.write(person, 0, scores[person]);
        }
        return x;
    }

    private static void personOf() {
        EDGES.sentence("21: person: 0 to 7; IndexOutOfBoundsException if there is no such person, ahead of the other");
        Edges.World w = () -> after("w p07");
        for (int bad : new int[] {-1, 8, Integer.MIN_VALUE, Integer.MAX_VALUE}) {
            for (int what : new int[] {0, 8, -1, 9, Integer.MAX_VALUE}) {
                EDGES.index(w, "personOf(" + bad + ", " + what + ")", x -> x.personOf(bad, what));
            }
        }
        EDGES.sentence("21: IllegalArgumentException if what is not 0 to 8");
        for (int bad : new int[] {-1, 9, 10, Integer.MIN_VALUE, Integer.MAX_VALUE}) {
            EDGES.argument(w, "personOf(0, " + bad + ")", x -> x.personOf(0, bad));
            EDGES.argument(w, "personOf(7, " + bad + ")", x -> x.personOf(7, bad));
        }
        EDGES.due("personOf(7, 0)", w.make().personOf(7, 0), 4);
        EDGES.due("personOf(7, 8)", w.make().personOf(7, 8), 1);
        EDGES.due("personOf(0, 8)", w.make().personOf(0, 8), 0);
    }

    private static void person(TokenReviews x, int person, int... due) {
        for (int what = 0; what < 9; what++) {
            EDGES.due("personOf(" + person + ", " + what + ")", x.personOf(person, what), due[what]);
        }
    }

    private static void personProperties() {
        EDGES.sentence("21: 0: tokens; 1: topics; 2: with whom this person worked; 3: reviews of papers that are not "
                + "decided; 4: written reviews of all papers; 5: tokens got so far (by weeks and as credit); 6: tokens "
                + "that are spent (those that came back are not); 7: reviews dropped so far; 8: papers with a conflict");
        TokenReviews x = after("c29 w p07 p16 p06 m57 m52 o55 c01");
        Edges.more(x, "t00 s00=9 D0 t01 s01=0 c04 t11 s11=9 t31 x31 t31 d1 r1 t02");
        person(x, 0, 9 - 6 - 1 + 1, 15, 0, 2, 2, 10, 7, 0, 0);
        person(x, 1, 9 - 2 - 1 + 1, 15, 0, 1, 1, 10, 3, 0, 0);
        person(x, 2, 9, 15, 32, 0, 0, 9, 0, 0, 0);
        person(x, 3, 9 - 2 + 1 - 2, 15, 0, 1, 0, 9, 3, 1, 0);
        person(x, 4, 9, 15, 0, 0, 0, 9, 0, 0, 0);
        person(x, 5, 9, 5, 132, 0, 0, 9, 0, 0, 1);
        person(x, 6, 9, 15, 0, 0, 0, 9, 0, 0, 6);
        person(x, 7, 9, 15, 32, 0, 0, 9, 0, 0, 1);
        EDGES.sentence("21: 7: each drop counts, also of the same review");
        x = after("c29 w p07 t00 x00 t00 x00 t00 x00 t00 x00");
        person(x, 0, 5, 15, 0, 0, 0, 9, 4, 4, 0);
        EDGES.sentence("21: 8: papers with which there is a conflict: also those that are decided, the first and the last");
        x = after("c29 c01 w p07 p00 p00 p00 p00 p00 p00 p07 t00 s00=1 D0");
        EDGES.due("personOf(7, 8)", x.personOf(7, 8), 129);
        EDGES.due("personOf(0, 8)", x.personOf(0, 8), 126);
    }

    private static void loads() {
        EDGES.sentence("21: 3: reviews, whether they are written or not, of papers that are not decided; from none to 8");
        TokenReviews x = after("c29 w w c29");
        x.bring(999);
        x.week();
        for (int papers = 0; papers < 8; papers++) {
            EDGES.due("load of " + papers, x.personOf(0, 3), papers);
            x.paper(0, 128);
            EDGES.due("take", x.take(0, papers), 0);
        }
        EDGES.due("load of 8", x.personOf(0, 3), 8);
        x.set(0, 1);
        for (int papers = 0; papers < 8; papers++) {
            EDGES.due("written so far", x.personOf(0, 4), papers);
            x.write(0, papers, 0);
            EDGES.due("load with it", x.personOf(0, 3), 8 - papers);
            EDGES.due("decide", x.decide(papers), 0);
        }
        EDGES.due("load of none", x.personOf(0, 3), 0);
        EDGES.due("written", x.personOf(0, 4), 8);
    }

    private static void paperOf() {
        EDGES.sentence("22: IndexOutOfBoundsException if there is no such paper, ahead of the other");
        Edges.World w = () -> after("w p07 p36");
        for (int bad : new int[] {-1, 2, 8, Integer.MIN_VALUE, Integer.MAX_VALUE}) {
            for (int what : new int[] {0, 9, -1, 10, Integer.MAX_VALUE}) {
                EDGES.index(w, "paperOf(" + bad + ", " + what + ")", x -> x.paperOf(bad, what));
            }
        }
        EDGES.sentence("22: IllegalArgumentException if what is not 0 to 9");
        for (int bad : new int[] {-1, 10, 11, Integer.MIN_VALUE, Integer.MAX_VALUE}) {
            EDGES.argument(w, "paperOf(0, " + bad + ")", x -> x.paperOf(0, bad));
            EDGES.argument(w, "paperOf(1, " + bad + ")", x -> x.paperOf(1, bad));
        }
        EDGES.due("paperOf(1, 0)", w.make().paperOf(1, 0), 3);
        EDGES.due("paperOf(1, 1)", w.make().paperOf(1, 1), 64);
        EDGES.due("paperOf(1, 9)", w.make().paperOf(1, 9), 0);
    }

    private static void paper(TokenReviews x, int paper, int... due) {
        for (int what = 0; what < 10; what++) {
            EDGES.due("paperOf(" + paper + ", " + what + ")", x.paperOf(paper, what), due[what]);
        }
    }

    private static void paperProperties() {
        EDGES.sentence("22: 0: its topic; 1: its authors; 2: persons with a review; 3: with a written one; 4: the sum; 5: "
                + "the greatest difference; 6: discussions; 7: 1 if it had a rebuttal; 8: 0, 1 or 2; 9: 1 if it can be "
                + "decided now");
        paper(after("w p25"), 0, 2, 32, 0, 0, 0, 0, 0, 0, 0, 0);
        paper(after("w p25 t00 t70"), 0, 2, 32, 129, 0, 0, 0, 0, 0, 0, 0);
        paper(after("w p25 t00 t70 s70=0"), 0, 2, 32, 129, 128, 0, 0, 0, 0, 0, 0);
        paper(after("w p25 t00 t70 s70=0 s00=9"), 0, 2, 32, 129, 129, 9, 9, 0, 0, 0, 0);
        paper(after("w p25 t00 t70 s70=0 s00=9 c02"), 0, 2, 32, 129, 129, 9, 9, 0, 0, 0, 1);
        paper(after("w p25 t00 t70 s70=0 s00=9 c02 d0 d0 r0"), 0, 2, 32, 129, 129, 10, 4, 2, 1, 0, 1);
        paper(after("w p25 t00 t70 s70=0 s00=9 c02 d0 d0 r0 D0"), 0, 2, 32, 129, 129, 10, 4, 2, 1, 1, 0);
        paper(after("w p25 t00 t70 s70=6 s00=6 c02 D0"), 0, 2, 32, 129, 129, 12, 0, 0, 0, 2, 0);
        EDGES.sentence("22: 6: a discussion that is refused does not count, one that changes no score does");
        paper(after("w p25 d0 t00 s00=5 d0 t10 s10=5 d0 d0 d0"), 0, 0 + 2, 32, 3, 3, 10, 0, 2, 0, 0, 0);
        EDGES.sentence("22: 7: a rebuttal that is refused does not count");
        paper(after("w p25 r0"), 0, 2, 32, 0, 0, 0, 0, 0, 0, 0, 0);
        EDGES.sentence("22: 9: now: setting 0 is looked at as it is");
        TokenReviews x = after("w p25 t00 s00=5 t10 s10=5");
        for (int due = 1; due <= 4; due++) {
            x.set(0, due);
            EDGES.due("paperOf(0, 9) with " + due, x.paperOf(0, 9), due <= 2 ? 1 : 0);
        }
        x.set(0, 3);
        x.take(2, 0);
        x.set(0, 1);
        EDGES.due("with one that is not written", x.paperOf(0, 9), 0);
    }

    private static void spreads() {
        EDGES.sentence("22: 5: the greatest difference of two written scores, 0 without two");
        EDGES.due("none", scored().paperOf(0, 5), 0);
        for (int score = 0; score < 10; score++) {
            EDGES.due("one of " + score, scored(score).paperOf(0, 5), 0);
            EDGES.due("twice " + score, scored(score, score).paperOf(0, 5), 0);
            EDGES.due("0 and " + score, scored(0, score).paperOf(0, 5), score);
            EDGES.due(score + " and 9", scored(score, 9).paperOf(0, 5), 9 - score);
            EDGES.due(score + ", 5, 9, 5", scored(score, 5, 9, 5).paperOf(0, 5), score < 5 ? 9 - score : 4);
        }
        TokenReviews x = after("c29 w p07 t00 s00=3");
        x.take(1, 0);
        EDGES.due("one, and one that is not written", x.paperOf(0, 5), 0);
    }

    private static void score() {
        EDGES.sentence("23: Returns the score, 10 if the review is not written yet; NONE without a review");
        TokenReviews x = after("c29 w p07 p07 t00");
        EDGES.due("not written yet", x.score(0, 0), 10);
        EDGES.due("without a review", x.score(1, 0), TokenReviews.NONE);
        EDGES.due("of the other paper", x.score(0, 1), TokenReviews.NONE);
        for (int score = 0; score < 10; score++) {
            x.write(0, 0, score);
            EDGES.due("written", x.score(0, 0), score);
        }
        EDGES.due("dropped", after("w p07 t00 x00").score(0, 0), TokenReviews.NONE);
        EDGES.due("refused", after("p07 t00").score(0, 0), TokenReviews.NONE);
        EDGES.due("decided", after("w p07 t00 s00=7 c01 D0").score(0, 0), 7);
        EDGES.due("NONE", TokenReviews.NONE, -1);
        EDGES.sentence("23: IndexOutOfBoundsException if there is no such person or paper");
        Edges.World w = () -> after("w p07");
        for (int bad : new int[] {-1, 8, Integer.MIN_VALUE, Integer.MAX_VALUE}) {
            EDGES.index(w, "score(" + bad + ", 0)", y -> y.score(bad, 0));
            EDGES.index(w, "score(0, " + bad + ")", y -> y.score(0, bad));
        }
        EDGES.index(w, "score(0, 1)", y -> y.score(0, 1));
        EDGES.index(TokenReviews::new, "score(0, 0)", y -> y.score(0, 0));
        EDGES.due("score(7, 0)", w.make().score(7, 0), -1);
    }

    private static void count() {
        EDGES.sentence("24: IllegalArgumentException if what is not 0 to 11");
        for (int bad : new int[] {-1, 12, 13, Integer.MIN_VALUE, Integer.MAX_VALUE}) {
            EDGES.argument(TokenReviews::new, "count(" + bad + ")", x -> x.count(bad));
            EDGES.argument(() -> after("w p07"), "count(" + bad + ")", x -> x.count(bad));
        }
        EDGES.due("count(0)", after("w p07").count(0), 1);
        EDGES.due("count(11)", after("w p07").count(11), 2);
    }

    private static void counted(TokenReviews x, int... due) {
        for (int what = 0; what < 12; what++) {
            EDGES.due("count(" + what + ")", x.count(what), due[what]);
        }
    }

    private static void counts() {
        EDGES.sentence("24: 0: papers; 1: weeks; 2: tokens in the pool; 3: spent; 4: of all persons; 5: that came into the "
                + "pool so far, with the first 100; 6: reviews; 7: written ones; 8: decided papers; 9: refused; 10: pairs "
                + "who worked with one another; 11: saved states");
        counted(new TokenReviews(), 0, 0, 100, 0, 0, 100, 0, 0, 0, 0, 0, 0);
        counted(after("w"), 0, 1, 68, 0, 32, 100, 0, 0, 0, 0, 0, 1);
        counted(after("w p07 t00"), 1, 1, 68, 2, 30, 100, 1, 0, 0, 0, 0, 3);
        counted(after("w p07 t00 x00"), 1, 1, 68, 1, 31, 100, 0, 0, 0, 0, 0, 4);
        counted(after("w p07 t00 s00=5 r0"), 1, 1, 67, 2, 31, 100, 1, 1, 0, 0, 0, 5);
        counted(after("w p07 t00 s00=5 c01 D0"), 1, 1, 68, 2, 30, 100, 1, 1, 1, 0, 0, 6);
        TokenReviews x = after("w p07 p06 t00 s00=5 t01 t11 c01 D0 m01 m12 m20 m12 d0 r0 t70 w");
        x.bring(7);
        counted(x, 2, 2, 100 - 64 + 7, 6, 58, 107, 3, 1, 1, 3, 2, 6);
        EDGES.sentence("24: 9: a discussion, a rebuttal and a review that are refused count, each time; exceptions do not");
        x = after("p07");
        for (int times = 1; times <= 4; times++) {
            x.take(7, 0);
            x.discuss(0);
            x.rebut(0);
            EDGES.due("count(9)", x.count(9), 3 * times);
        }
        try {
            x.decide(0);
        } catch (IllegalStateException e) {
            EDGES.due("a decision that throws", x.count(9), 12);
        }
        x.whyNot(7, 0);
        EDGES.due("whyNot()", x.count(9), 12);
        EDGES.sentence("tokens that came in are in the pool, with the persons, or spent, at all times");
        x = after("c29 w p07 p00 t00 t10 t20 s00=1 s10=9 s20=4 d0 d0 r0 t11 x11 w");
        EDGES.due("sum", x.count(2) + x.count(3) + x.count(4), x.count(5));
    }

    private static void setting() {
        EDGES.sentence("25: IndexOutOfBoundsException if there is no such setting");
        for (int bad : new int[] {-1, 4, 5, Integer.MIN_VALUE, Integer.MAX_VALUE}) {
            EDGES.index(TokenReviews::new, "setting(" + bad + ")", x -> x.setting(bad));
        }
        EDGES.sentence("25: setting: 0 to 3. Returns its value");
        TokenReviews x = after("c04 c12 c29 c33");
        int[] due = {4, 2, 9, 3};
        for (int setting = 0; setting < 4; setting++) {
            EDGES.due("setting(" + setting + ")", x.setting(setting), due[setting]);
        }
    }

    private static void whyNot() {
        EDGES.sentence("26: Returns 0 if it can; otherwise the reason");
        Edges.World w = () -> after("w p07 p16 o20 m34 c01 t01 s01=9 D1 c03 t10 c22 m37");
        EDGES.plain(w, "whyNot(0, 0)", x -> x.whyNot(0, 0), 0);
        EDGES.plain(w, "whyNot(0, 1)", x -> x.whyNot(0, 1), 1);
        EDGES.plain(w, "whyNot(1, 0)", x -> x.whyNot(1, 0), 2);
        EDGES.plain(w, "whyNot(7, 0)", x -> x.whyNot(7, 0), 4);
        EDGES.plain(w, "whyNot(3, 0)", x -> x.whyNot(3, 0), 4);
        EDGES.plain(w, "whyNot(2, 0)", x -> x.whyNot(2, 0), 5);
        EDGES.plain(() -> after("w p07 t00 c01"), "whyNot(1, 0)", x -> x.whyNot(1, 0), 3);
        EDGES.plain(() -> after("c21 w p07"), "whyNot(1, 0)", x -> x.whyNot(1, 0), 6);
        EDGES.sentence("26: IndexOutOfBoundsException if there is no such person or paper");
        for (int bad : new int[] {-1, 8, Integer.MIN_VALUE, Integer.MAX_VALUE}) {
            EDGES.index(w, "whyNot(" + bad + ", 0)", x -> x.whyNot(bad, 0));
            EDGES.index(w, "whyNot(0, " + bad + ")", x -> x.whyNot(0, bad));
        }
        EDGES.index(w, "whyNot(0, 2)", x -> x.whyNot(0, 2));
        EDGES.index(TokenReviews::new, "whyNot(0, 0)", x -> x.whyNot(0, 0));
    }

    private static void bestReviewer() {
        EDGES.sentence("27: NONE if there is none: for each of the reasons");
        EDGES.due("no tokens", after("p07").bestReviewer(0), TokenReviews.NONE);
        EDGES.due("one token each", after("c21 w p07").bestReviewer(0), TokenReviews.NONE);
        EDGES.due("two tokens each", after("c22 w p07").bestReviewer(0), 0);
        TokenReviews x = after("w");
        x.paper(0, 255);
        EDGES.due("all are authors", x.bestReviewer(0), TokenReviews.NONE);
        EDGES.due("decided", after("w p07 t00 s00=5 c01 D0 c04").bestReviewer(0), TokenReviews.NONE);
        EDGES.due("enough reviews", after("w p07 t00 c01").bestReviewer(0), TokenReviews.NONE);
        EDGES.due("topics", after("w p07 o0e o1e o2e o3e o4e o5e o6e").bestReviewer(0), TokenReviews.NONE);
        EDGES.due("one topic fits", after("w p07 o0e o1e o2e o3e o4e o5e o61").bestReviewer(0), 6);
        x = after("c29 c04 w");
        x.paper(0, 0b11110000);
        EDGES.due("the last that is left", Edges.more(x, "t00 t10 t20").bestReviewer(0), 3);
        EDGES.due("all have it", Edges.more(x, "t30").bestReviewer(0), TokenReviews.NONE);
        EDGES.sentence("27: IndexOutOfBoundsException if there is no such paper");
        for (int bad : new int[] {-1, 1, 8, Integer.MIN_VALUE, Integer.MAX_VALUE}) {
            EDGES.index(() -> after("w p07"), "bestReviewer(" + bad + ")", y -> y.bestReviewer(bad));
        }
        EDGES.index(TokenReviews::new, "bestReviewer(0)", y -> y.bestReviewer(0));
    }

    private static void bestOfSeveral() {
        EDGES.sentence("27: the one with the fewest reviews of papers that are not decided");
        TokenReviews x = after("c29 c04 w p07 p06 p05 t00 t10 t20 t30 t41");
        EDGES.due("the first with none", x.bestReviewer(1), 5);
        Edges.more(x, "t51 t71");
        EDGES.due("all but the author of it have one", x.bestReviewer(2), 6);
        x = after("c29 c04 w p07 p06 p05 t00 t10 t20 t30 t41 t61 t51 t71");
        EDGES.due("paper 2: fewest is 6, refused as the author of 1", x.bestReviewer(2), 6);
        EDGES.due("fewest first, also with fewer tokens", fewerTokens().bestReviewer(1), 3);
        x = after("c29 c01 w p07 p00 t10 s10=5 t21");
        EDGES.due("a load of paper 0", x.personOf(1, 3), 1);
        x = after("c29 c01 w p07 p00 t10 s10=5 D0 c04 o20 o30 o40 o50 o60 o70");
        EDGES.due("reviews of decided papers do not count", x.personOf(1, 3), 0);
        EDGES.due("so person 1 it is", x.bestReviewer(1), 1);
        EDGES.due("all have one review at least", after("c29 c04 w p05 p06 p07 t00 t10 t20 t30 t41 t51 t71 t62")
                .bestReviewer(2), 0);
        EDGES.due("two against one", after("c29 c04 w p06 p05 p07 t00 t01 t10 t32 t42 t52 o20 o60").bestReviewer(2), 1);
        EDGES.sentence("27: of several the one with the most tokens");
        x = after("c25 w p07");
        EDGES.due("person 0, as all have 5", x.bestReviewer(0), 0);
        Edges.more(x, "w c20 w");
        EDGES.due("person 0, as all have 10", x.bestReviewer(0), 0);
        x = after("c25 p07 p07 w t01 x01 t11 x11");
        EDGES.due("tokens of 1", x.personOf(1, 0), 4);
        EDGES.due("person 2 has 5", x.bestReviewer(0), 2);
        x = after("c25 p07 w t00 x00 t10 x10 t20 x20 t30 x30 t40 x40 t50 x50");
        EDGES.due("person 6 has 5", x.bestReviewer(0), 6);
        EDGES.sentence("27: of these the lowest");
        x = after("c25 p07 w t00 x00 t20 x20 t30 x30");
        EDGES.due("1, 4, 5 and 6 have 5", x.bestReviewer(0), 1);
        x = after("c25 w p00");
        EDGES.due("1 to 7 have 5", x.bestReviewer(0), 1);
    }

    /** Person 3 has no review and 4 tokens, the others one review and 7, but for 7, who has no topics. */
    private static TokenReviews fewerTokens() {
        TokenReviews x = after("c29 c04 w p07 p00 p07 t30 x30 t30 x30 t30 x30 t30 x30 t30 x30");
        return Edges.more(x, "t10 t20 t40 t50 t62 t02 o70");
    }

    private static void bothMost(String name, TokenReviews x, int due) {
        EDGES.due(name + ": most(0)", x.most(0), due);
        EDGES.due(name + ": most(1)", x.most(1), due);
    }

    private static void most() {
        EDGES.sentence("28: IllegalArgumentException if what is not 0 or 1");
        for (int bad : new int[] {-1, 2, 3, Integer.MIN_VALUE, Integer.MAX_VALUE}) {
            EDGES.argument(TokenReviews::new, "most(" + bad + ")", x -> x.most(bad));
            EDGES.argument(() -> after("w p07"), "most(" + bad + ")", x -> x.most(bad));
        }
        EDGES.sentence("28: 0 if none can be taken: without papers, without tokens, and for each other reason");
        bothMost("no papers", after("w"), 0);
        bothMost("no tokens", after("p07"), 0);
        bothMost("one token each", after("c21 w p07"), 0);
        bothMost("two tokens each", after("c22 w p07"), 3);
        bothMost("decided", after("c01 w p07 t00 s00=5 D0 c04"), 0);
        bothMost("enough reviews", after("c01 w p07 t00"), 0);
        bothMost("more than enough", after("c02 w p07 t00 t10 c01"), 0);
        bothMost("one is due yet", after("c01 w p07 t00 c02"), 1);
        bothMost("topics", after("w p07 o0e o1e o2e o3e o4e o5e o6e"), 0);
        TokenReviews x = after("w");
        x.paper(0, 255);
        bothMost("all are authors", x, 0);
        x = after("w m01 m02 m03 m04 m05 m06 m07 p00");
        bothMost("all worked with the author", x, 0);
        Edges.more(x, "c10");
        bothMost("with a reach of 0", x, 3);
        x = after("w m01 m12 m13 m14 m15 m16 m17 p00");
        bothMost("a reach of 1", x, 3);
        Edges.more(x, "c12");
        bothMost("a reach of 2", x, 0);
    }

    private static void mostAtTheEnds() {
        EDGES.sentence("28: with the tokens that there are: each review takes 2 of them");
        String[] seven = {"", "p07", "p07 p07", "p07 p07 p07", "p07 p07 p07 p07", "p07 p07 p07 p07 p07",
            "p07 p07 p07 p07 p07 p07", "p07 p07 p07 p07 p07 p07 p07"};
        for (int tokens = 0; tokens < 10; tokens++) {
            for (int papers = 1; papers < 8; papers++) {
                TokenReviews x = after("c2" + tokens + " c04 w " + seven[papers] + " o1e o2e o3e o4e o5e o6e o7e");
                bothMost(tokens + " tokens, " + papers + " papers", x, Math.min(papers, tokens / 2));
            }
        }
        EDGES.sentence("28: a person takes one review of a paper, not more; a paper setting 0 reviews, not more");
        bothMost("four due, one person", after("c29 c04 w p07 o1e o2e o3e o4e o5e o6e"), 1);
        for (int due = 1; due <= 4; due++) {
            bothMost(due + " due, seven persons", after("c29 w p07 c0" + due), due);
            bothMost(due + " due, three persons", after("c29 w p07 o3e o4e o5e o6e c0" + due), Math.min(3, due));
        }
        EDGES.sentence("28: the most at all: 8 papers with 4 reviews each");
        TokenReviews x = after("c29 c04 w p00 p11 p22 p33 p04 p15 p26 p37");
        bothMost("all of them", x, 32);
        bothMost("all but one", Edges.more(x, "u"), 28);
        bothMost("8 papers, one review by each person", after("c22 c04 w p00 p11 p22 p33 p04 p15 p26 p37"), 8);
        bothMost("8 papers, one by each of two", after("c22 w p00 p11 p22 p33 p04 p15 p26 p37 o10 o30 o40 o50 o60 o70"), 2);
        EDGES.sentence("28: one after the other, so that none is refused: as many as are told, and then no more");
        for (String topics : new String[] {"", "o01 o13 o27 o3f o48", "o01 o11 o21 o31 o4e o56 o64 o70"}) {
            for (String start : new String[] {"c22 c02 w ", "c24 c03 w ", "c29 c04 c10 w "}) {
                x = after(start + "p00 p11 p22 p33 p07 " + topics);
                int due = x.most(0);
                int taken = 0;
                while (takeOne(x)) {
                    taken++;
                }
                EDGES.due("taken after " + start + topics, taken, due);
                EDGES.due("left", x.most(1), 0);
                EDGES.due("refused", x.count(9), 0);
            }
        }
    }

    /** Takes a review that leaves one fewer, not two. */
    private static boolean takeOne(TokenReviews x) {
        int before = x.most(0);
        for (int paper = 0; paper < 5; paper++) {
            for (int person = 0; person < 8; person++) {
                if (x.whyNot(person, paper) == 0) {
                    x.take(person, paper);
                    if (x.most(0) == before - 1) {
                        return true;
                    }
                    x.undo();
                }
            }
        }
        return false;
    }

    private static void mostByExchange() {
        EDGES.sentence("28: told by ways that exchange persons: whoever comes first gives way to another");
        TokenReviews x = after("c22 c01 w p00 p10 o0f o13 o21 o30 o40 o50 o60 o70");
        bothMost("persons 1 and 2 on papers 0 and 1", x, 2);
        x = after("c22 c01 w p07 p17 p27 p37 o0f o17 o23 o31 o40 o50 o60");
        bothMost("a chain of four", x, 4);
        bothMost("without its end", Edges.more(x, "o30"), 3);
        bothMost("without its middle", Edges.more(x, "o31 o10"), 3);
        bothMost("two of the same topic", Edges.more(x, "o01 o11 o21"), 1);
        x = after("c22 c04 w p07 p17 o00 o10 o20 o30 o40 o51 o63");
        bothMost("two persons", x, 2);
        x = after("c24 c04 w p07 p17 o00 o10 o20 o30 o40 o51 o63");
        bothMost("two persons with four tokens", x, 3);
        longWays();
    }

    /**
     * Each paper but the last can be reviewed by two persons, who follow one another, the last one by the first of
     * them alone: for it all others must move, upwards or downwards.
     */
    private static void longWays() {
        EDGES.sentence("28: ways that exchange persons, of each length");
        for (int length = 1; length <= 7; length++) {
            for (int first = 0; first + length < 8; first++) {
                TokenReviews up = after("c22 c01 c10 w");
                TokenReviews down = after("c22 c01 c10 w");
                for (int paper = 0; paper < length; paper++) {
                    up.paper(0, 255 ^ 3 << first + paper);
                    down.paper(0, 255 ^ 3 << first + length - 1 - paper);
                }
                up.paper(0, 255 ^ 1 << first);
                down.paper(0, 255 ^ 1 << first + length);
                bothMost("upwards", up, length + 1);
                bothMost("downwards", down, length + 1);
                EDGES.due("needed()", up.needed(), first);
                EDGES.due("needed()", down.needed(), first);
                up.topics(first + length, 0);
                down.topics(first, 0);
                bothMost("one person fewer", up, length);
                bothMost("one person fewer", down, length);
            }
        }
    }

    private static void needed() {
        EDGES.sentence("29: of several the lowest: also if nobody's leaving hurts");
        EDGES.due("a new object", new TokenReviews().needed(), 0);
        EDGES.due("no tokens", after("p00").needed(), 0);
        EDGES.due("no papers", after("w").needed(), 0);
        EDGES.due("others stand in", after("w p00").needed(), 0);
        EDGES.due("all hurt alike", after("c22 c04 w p00 p01 p02 p03 p04 p05 p06 p07").needed(), 0);
        EDGES.sentence("29: Returns the person without whom most() would be the least: each one, the first and the last");
        for (int needed = 0; needed < 8; needed++) {
            TokenReviews x = after("c10 w");
            x.paper(0, 255 ^ 1 << needed);
            EDGES.due("needed()", x.needed(), needed);
            for (int second = needed + 1; second < 8; second++) {
                x = after("c10 w");
                x.paper(0, 255 ^ 1 << needed ^ 1 << second);
                EDGES.due("the lowest of two", x.needed(), needed);
                x.paper(1, 255 ^ 1 << second);
                EDGES.due("the one with two papers", x.needed(), second);
            }
        }
        EDGES.sentence("29: (who took no review any more, all else as it is): reviews that were taken stay");
        TokenReviews x = after("c10 c01 w");
        x.paper(0, 255 ^ 8);
        x.paper(1, 255 ^ 32);
        EDGES.due("3 and 5 alike", x.needed(), 3);
        x.take(3, 0);
        EDGES.due("3 has taken what there was", x.needed(), 5);
        x.take(5, 1);
        EDGES.due("nothing is left", x.needed(), 0);
    }

    private static void roundsToAgree() {
        EDGES.sentence("30: Returns how many, 0 to 20, until paperOf(paper, 5) is at most 1");
        EDGES.due("no scores", scored().roundsToAgree(0), 0);
        EDGES.due("one score", scored(9).roundsToAgree(0), 0);
        EDGES.due("alike", scored(4, 4).roundsToAgree(0), 0);
        EDGES.due("1 apart", scored(4, 5).roundsToAgree(0), 0);
        EDGES.due("2 apart", scored(4, 6).roundsToAgree(0), 1);
        EDGES.due("3 apart", scored(4, 7).roundsToAgree(0), 1);
        EDGES.due("4 apart", scored(4, 8).roundsToAgree(0), 2);
        EDGES.due("9 apart", scored(0, 9).roundsToAgree(0), 4);
        EDGES.due("three alike, one far", scored(9, 9, 9, 0).roundsToAgree(0), 4);
        EDGES.due("three alike, one far", scored(0, 0, 0, 9).roundsToAgree(0), 5);
        EDGES.sentence("30: if tokens did not matter: the persons may have none");
        EDGES.due("no tokens", after("c22 w p07 t00 s00=0 t10 s10=9").roundsToAgree(0), 4);
        EDGES.sentence("30: (also of a paper that is decided)");
        EDGES.due("taken on", after("w p07 t00 s00=9 t10 s10=3 c01 D0").roundsToAgree(0), 3);
        EDGES.due("turned down", after("w p07 t00 s00=0 t10 s10=9 c01 D0").roundsToAgree(0), 4);
        EDGES.sentence("30: a review that is not written has no score");
        EDGES.due("one that is not written", after("w p07 t00 s00=0 t10 t20").roundsToAgree(0), 0);
        EDGES.sentence("30: IndexOutOfBoundsException if there is no such paper");
        for (int bad : new int[] {-1, 1, 8, Integer.MIN_VALUE, Integer.MAX_VALUE}) {
            EDGES.index(() -> after("w p07"), "roundsToAgree(" + bad + ")", y -> y.roundsToAgree(bad));
        }
        EDGES.index(TokenReviews::new, "roundsToAgree(0)", y -> y.roundsToAgree(0));
    }

    private static int roundsOf(int... scores) {
        int[] now = scores.clone();
        for (int rounds = 0; rounds <= 20; rounds++) {
            int sum = 0;
            int least = 9;
            int greatest = 0;
            for (int score : now) {
                sum += score;
                least = Math.min(least, score);
                greatest = Math.max(greatest, score);
            }
            if (greatest - least <= 1) {
                return rounds;
            }
            for (int i = 0; i < now.length; i++) {
                now[i] += Integer.compare(sum / now.length, now[i]);
            }
        }
        return -1;
    }

    private static void roundsOfAllScores() {
        EDGES.sentence("30: of all scores that four persons can give, none needs more than 20: NONE is never due");
        int longest = 0;
        for (int a = 0; a < 10; a++) {
            for (int b = a; b < 10; b++) {
                TokenReviews x = scored(a, b, 0, 0);
                for (int c = b; c < 10; c++) {
                    x.write(2, 0, c);
                    for (int d = c; d < 10; d++) {
                        x.write(3, 0, d);
                        int due = roundsOf(a, b, c, d);
                        EDGES.due("rounds of " + a + b + c + d, x.roundsToAgree(0), due);
                        longest = due < 0 ? 99 : Math.max(longest, due);
                    }
                }
                EDGES.due("rounds of " + a + b, scored(a, b).roundsToAgree(0), roundsOf(a, b));
                EDGES.due("rounds of " + a + b + "0", scored(a, b, 0).roundsToAgree(0), roundsOf(a, b, 0));
                EDGES.due("rounds of " + a + b + "9", scored(a, b, 9).roundsToAgree(0), roundsOf(a, b, 9));
            }
        }
        EDGES.due("the longest way is at most 20", longest <= 20 ? 1 : 0, 1);
    }

    private static void meanScore() {
        EDGES.sentence("31: -1.0 without any");
        EDGES.dueDouble("no review", scored().meanScore(0), -1.0);
        EDGES.dueDouble("none written", after("w p07 t00 t10").meanScore(0), -1.0);
        EDGES.sentence("31: Returns the sum of its written scores as a double, divided by how many these are");
        EDGES.dueDouble("0", scored(0).meanScore(0), 0.0);
        EDGES.dueDouble("0 four times", scored(0, 0, 0, 0).meanScore(0), 0.0);
        EDGES.dueDouble("9 four times", scored(9, 9, 9, 9).meanScore(0), 9.0);
        EDGES.dueDouble("0 and 1", scored(0, 1).meanScore(0), 0.5);
        EDGES.dueDouble("0, 0, 1", scored(0, 0, 1).meanScore(0), 1.0 / 3.0);
        EDGES.dueDouble("9, 9, 8", scored(9, 9, 8).meanScore(0), 26.0 / 3.0);
        EDGES.dueDouble("0, 0, 0, 1", scored(0, 0, 0, 1).meanScore(0), 0.25);
        EDGES.dueDouble("one that is not written", after("w p07 t00 t10 s10=7").meanScore(0), 7.0);
        EDGES.dueDouble("of a decided paper", after("w p07 t00 s00=7 c01 D0").meanScore(0), 7.0);
        EDGES.sentence("31: IndexOutOfBoundsException if there is no such paper");
        for (int bad : new int[] {-1, 1, 8, Integer.MIN_VALUE, Integer.MAX_VALUE}) {
            EDGES.index(() -> after("w p07"), "meanScore(" + bad + ")", y -> (long) y.meanScore(bad));
        }
        EDGES.index(TokenReviews::new, "meanScore(0)", y -> (long) y.meanScore(0));
    }

    private static void spentShare() {
        EDGES.sentence("32: the tokens that are spent as a float, divided by those that came into the pool so far");
        EDGES.dueDouble("a new object", new TokenReviews().spentShare(), 0.0f);
        EDGES.dueDouble("tokens that are given out are not spent", after("c29 w").spentShare(), 0.0f);
        EDGES.dueDouble("two", after("w p07 t00").spentShare(), 2.0f / 100.0f);
        EDGES.dueDouble("one came back", after("w p07 t00 x00").spentShare(), 1.0f / 100.0f);
        EDGES.dueDouble("credit is not spent", after("w p07 t00 s00=1 r0").spentShare(), 2.0f / 100.0f);
        EDGES.dueDouble("a discussion", after("w p07 t00 s00=1 t10 s10=4 d0").spentShare(), 6.0f / 100.0f);
        TokenReviews x = after("w p07 t00 s00=1 t10");
        for (int times = 1; times <= 10; times++) {
            x.bring(999);
            EDGES.dueDouble("four of " + (100 + 999 * times), x.spentShare(), 4.0f / (100 + 999 * times));
        }
        x.bring(9);
        EDGES.dueDouble("four of all that can come", x.spentShare(), 4.0f / 10099.0f);
        EDGES.sentence("32: 1 if all are spent, and no more");
        x = allSpent();
        EDGES.due("count(3)", x.count(3), 100);
        EDGES.dueDouble("all", x.spentShare(), 1.0f);
        EDGES.due("the digest of it", x.digest(), LooksTest.digestOf(x, new int[] {0, 0}, ""));
        x.bring(1);
        EDGES.dueDouble("but for one", x.spentShare(), 100.0f / 101.0f);
    }

    /** 12 tokens to each person, 16 to person 0; all but 4 are spent on paper 0 and 1, these on papers 2 and 3. */
    private static TokenReviews allSpent() {
        TokenReviews x = after("c04 c10 w w w w p07 p00 p11 p22");
        Edges.more(x, "t00 t10 t20 t30 s00=5 s10=5 s20=5 s30=5 t41 t51 t61 t71 s41=5 s51=5 s61=5 s71=5 t02 t03");
        return Edges.more(x, "d0 d0 d0 d0 d0 d0 d0 d0 d0 d0 d1 d1 d1 d1 d1 d1 d1 d1 d1 d1");
    }

    private static void digest() {
        EDGES.sentence("33: the list, for no paper, one, eight");
        int[] none = {0, 0};
        EDGES.due("a new object", new TokenReviews().digest(), LooksTest.digestOf(new TokenReviews(), none, ""));
        String[] worlds = {"w", "p00", "w p07 t00", "w p07 t00 s00=0", "w p07 t00 s00=9 c01 D0",
            "w p00 p11 p22 p33 p04 p15 p26 p37", "c29 c12 c33 w m45 m47 o35 p07 p16 t00 t10 s10=1 t20 s20=9 x00 d0 d0 r0 t70"};
        for (String orders : worlds) {
            TokenReviews x = after(orders);
            EDGES.due("digest of " + orders, x.digest(), LooksTest.digestOf(x, none, ""));
        }
        EDGES.sentence("33: needed");
        for (int needed = 0; needed < 8; needed++) {
            TokenReviews x = after("c10 w");
            x.paper(0, 255 ^ 1 << needed);
            EDGES.due("digest, needed is " + needed, x.digest(), LooksTest.digestOf(x, none, ""));
        }
        EDGES.sentence("33: the bits of meanScore, of each sum and number of scores; of spentShare");
        for (int number = 1; number <= 4; number++) {
            for (int sum = 0; sum <= 9 * number; sum++) {
                int[] scores = new int[number];
                for (int i = 0; i < number; i++) {
                    scores[i] = (sum + i) / number;
                }
                TokenReviews x = scored(scores);
                EDGES.due("digest of " + sum + " by " + number, x.digest(), LooksTest.digestOf(x, none, ""));
            }
        }
        TokenReviews x = scored(1, 9);
        for (int times = 1; times <= 12; times++) {
            x.bring(times * 77);
            EDGES.due("digest of a share", x.digest(), LooksTest.digestOf(x, none, ""));
        }
    }

    private static void digestOfSlotsAndBuffers() {
        EDGES.sentence("33: for each slot 1 if it has a snapshot, otherwise 0");
        String[] keeps = {"", "k0", "k1", "k0 k1"};
        for (int full = 0; full < 4; full++) {
            TokenReviews x = after("w p07 " + keeps[full]);
            EDGES.due("slots " + keeps[full], x.digest(), LooksTest.digestOf(x, new int[] {full & 1, full >> 1}, ""));
        }
        EDGES.sentence("33: the length of the buffer and each of its character codes: none, one, 60");
        StringBuilder text = new StringBuilder();
        TokenReviews x = after("w p07 k1");
        for (int length = 0; length <= 60; length++) {
            EDGES.due("buffer of " + length, x.digest(), LooksTest.digestOf(x, new int[] {0, 1}, text.toString()));
            if (length < 60) {
                char code = (char) (33 + length * 93 / 59);
                text.append(code);
                x.append(code);
            }
        }
        x.clearBuffer();
        EDGES.due("cleared", x.digest(), LooksTest.digestOf(x, new int[] {0, 1}, ""));
        Edges.typed(x, "w");
        x.run();
        EDGES.due("run", x.digest(), LooksTest.digestOf(x, new int[] {0, 1}, ""));
    }
}
