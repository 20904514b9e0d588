/** The boundary cases that "Terms" names: persons, papers, conflicts, tokens, reasons, scores, decisions, settings. */
public final class TermsEdgesTest {
    private static final Edges EDGES = new Edges("TermsEdgesTest");

    public static void main(String[] args) {
        eightPersons();
        atFirst();
        eightPapers();
        papersThatThereAre();
        conflicts();
        conflictsByAnyAuthor();
        pool();
        price();
        takeReasons();
        takeReasonsInRuns();
        fewerThanTwoTokens();
        fullPapers();
        scores();
        dropping();
        discussReasons();
        fewerThanTwoWritten();
        noToken();
        scoresComeNearer();
        rebutReasons();
        leastScores();
        credit();
        canBeDecided();
        takenOn();
        settings();
        EDGES.end();
    }

    private static TokenReviews after(String orders) {
        return Edges.after(orders);
    }

    private static void eightPersons() {
        EDGES.sentence("There are 8 persons, numbered from 0");
        Edges.World w = () -> after("c29 w p00 p07");
        for (int person : new int[] {0, 7}) {
            int other = 7 - person;
            int paper = person == 0 ? 1 : 0;
            EDGES.due("topics", w.make().topics(person, 1), 15);
            EDGES.due("meet", w.make().meet(person, other), 1);
            EDGES.due("take", w.make().take(person, paper), 0);
            EDGES.due("write", after("c29 w p00 p07 t" + person + paper).write(person, paper, 1), 1);
            EDGES.due("drop", after("c29 w p00 p07 t" + person + paper).drop(person, paper), 8);
            EDGES.due("personOf", w.make().personOf(person, 0), 9);
            EDGES.due("score", w.make().score(person, paper), -1);
            EDGES.due("whyNot", w.make().whyNot(person, paper), 0);
        }
        for (int bad : new int[] {-1, 8, 9, 255, 256, Integer.MIN_VALUE, Integer.MAX_VALUE}) {
            EDGES.index(w, "topics of " + bad, x -> x.topics(bad, 1));
            EDGES.index(w, "meet of " + bad, x -> x.meet(bad, 1));
            EDGES.index(w, "meet with " + bad, x -> x.meet(1, bad));
            EDGES.index(w, "take by " + bad, x -> x.take(bad, 0));
            EDGES.index(w, "write by " + bad, x -> x.write(bad, 0, 1));
            EDGES.index(w, "drop by " + bad, x -> x.drop(bad, 0));
            EDGES.index(w, "personOf " + bad, x -> x.personOf(bad, 0));
            EDGES.index(w, "score of " + bad, x -> x.score(bad, 0));
            EDGES.index(w, "whyNot of " + bad, x -> x.whyNot(bad, 0));
        }
    }

    private static void atFirst() {
        TokenReviews x = new TokenReviews();
        EDGES.sentence("A person has tokens, at first 0");
        for (int person = 0; person < 8; person++) {
            EDGES.due("personOf(" + person + ", 0)", x.personOf(person, 0), 0);
        }
        EDGES.sentence("and topics, a mask of the topics 0 to 3, at first all four");
        for (int person = 0; person < 8; person++) {
            EDGES.due("personOf(" + person + ", 1)", x.personOf(person, 1), 15);
        }
        EDGES.sentence("Two persons have worked with one another, or not, at first not");
        for (int person = 0; person < 8; person++) {
            EDGES.due("personOf(" + person + ", 2)", x.personOf(person, 2), 0);
        }
        EDGES.due("count(10)", x.count(10), 0);
        EDGES.sentence("There is a pool, with 100 tokens at first");
        EDGES.due("count(2)", x.count(2), 100);
        EDGES.due("count(5)", x.count(5), 100);
        EDGES.sentence("3: what a rebuttal brings, 0 to 3, at first 1; the others at first 3, 1, 4");
        int[] first = {3, 1, 4, 1};
        for (int setting = 0; setting < 4; setting++) {
            EDGES.due("setting(" + setting + ")", x.setting(setting), first[setting]);
        }
    }

    private static TokenReviews withPapers(int papers) {
        TokenReviews x = after("c29 w");
        for (int paper = 0; paper < papers; paper++) {
            x.paper(3 - paper % 4, 1 << paper);
        }
        return x;
    }

    private static void eightPapers() {
        EDGES.sentence("There are at most 8 papers, numbered from 0 in the order in which they came");
        for (int papers = 0; papers < 8; papers++) {
            int number = papers;
            EDGES.due("paper number " + papers, withPapers(number).paper(2, 3), number);
        }
        TokenReviews x = withPapers(8);
        for (int paper = 0; paper < 8; paper++) {
            EDGES.due("topic of " + paper, x.paperOf(paper, 0), 3 - paper % 4);
            EDGES.due("authors of " + paper, x.paperOf(paper, 1), 1 << paper);
        }
        EDGES.state(() -> withPapers(8), "a ninth paper", y -> y.paper(0, 1));
        EDGES.sentence("each has a topic, 0 to 3");
        for (int topic = 0; topic < 4; topic++) {
            int t = topic;
            x = new TokenReviews();
            EDGES.due("paper(" + topic + ", 1)", x.paper(t, 1), 0);
            EDGES.due("its topic", x.paperOf(0, 0), t);
        }
        for (int bad : new int[] {-1, 4, 15}) {
            EDGES.argument(TokenReviews::new, "paper(" + bad + ", 1)", y -> y.paper(bad, 1));
        }
        EDGES.sentence("and authors, a mask of persons, at least one");
        for (int authors : new int[] {1, 2, 128, 254, 255}) {
            x = new TokenReviews();
            EDGES.due("paper(0, " + authors + ")", x.paper(0, authors), 0);
            EDGES.due("its authors", x.paperOf(0, 1), authors);
        }
        for (int bad : new int[] {0, -1, 256, 257}) {
            EDGES.argument(TokenReviews::new, "paper(0, " + bad + ")", y -> y.paper(0, bad));
        }
    }

    private static void papersThatThereAre() {
        EDGES.sentence("if there is no such paper: none, one, all but one, all of them");
        for (int papers : new int[] {0, 1, 7, 8}) {
            Edges.World w = () -> withPapers(papers);
            for (int bad : new int[] {-1, papers, 8, 9, 256, Integer.MIN_VALUE, Integer.MAX_VALUE}) {
                noSuchPaper(w, bad);
            }
            if (papers > 0) {
                lastPaper(w, papers - 1);
            }
        }
    }

    private static void noSuchPaper(Edges.World w, int bad) {
        EDGES.index(w, "take of " + bad, x -> x.take(0, bad));
        EDGES.index(w, "write of " + bad, x -> x.write(0, bad, 0));
        EDGES.index(w, "drop of " + bad, x -> x.drop(0, bad));
        EDGES.index(w, "discuss " + bad, x -> x.discuss(bad));
        EDGES.index(w, "rebut " + bad, x -> x.rebut(bad));
        EDGES.index(w, "decide " + bad, x -> x.decide(bad));
        EDGES.index(w, "paperOf " + bad, x -> x.paperOf(bad, 0));
        EDGES.index(w, "score of " + bad, x -> x.score(0, bad));
        EDGES.index(w, "whyNot of " + bad, x -> x.whyNot(0, bad));
        EDGES.index(w, "bestReviewer of " + bad, x -> x.bestReviewer(bad));
        EDGES.index(w, "roundsToAgree of " + bad, x -> x.roundsToAgree(bad));
        EDGES.index(w, "meanScore of " + bad, x -> (long) x.meanScore(bad));
    }

    private static void lastPaper(Edges.World w, int paper) {
        int person = (paper + 1) % 8;
        EDGES.due("whyNot", w.make().whyNot(person, paper), 0);
        EDGES.due("score", w.make().score(person, paper), -1);
        EDGES.due("bestReviewer", w.make().bestReviewer(paper), paper == 0 ? 1 : 0);
        EDGES.due("roundsToAgree", w.make().roundsToAgree(paper), 0);
        EDGES.dueDouble("meanScore", w.make().meanScore(paper), -1.0);
        TokenReviews x = w.make();
        x.set(0, 1);
        EDGES.due("take", x.take(person, paper), 0);
        EDGES.due("drop", x.drop(person, paper), 8);
        EDGES.due("take", x.take(person, paper), 0);
        EDGES.due("write", x.write(person, paper, 6), 1);
        EDGES.due("discuss", x.discuss(paper), 2);
        EDGES.due("rebut", x.rebut(paper), 11);
        EDGES.due("decide", x.decide(paper), 1);
        EDGES.due("paperOf", x.paperOf(paper, 8), 2);
    }

    /** Persons 2, 3, 4, 5 in a chain; 2 is the author. */
    private static void conflicts() {
        int[][] reached = {{2}, {2, 3}, {2, 3, 4}};
        String[] words = {"a person has a conflict with a paper if the person is an author of it",
            "or, with setting 1 as 1 or 2, worked with an author",
            "or, with setting 1 as 2, worked with somebody who worked with an author"};
        for (int reach = 0; reach < 3; reach++) {
            EDGES.sentence(words[reach] + ", and no further");
            TokenReviews x = after("c29 w p02 m23 m34 m45 c1" + reach);
            for (int person = 0; person < 8; person++) {
                boolean conflict = false;
                for (int p : reached[reach]) {
                    conflict |= p == person;
                }
                EDGES.due("whyNot of " + person, x.whyNot(person, 0), conflict ? 4 : 0);
                EDGES.due("personOf(" + person + ", 8)", x.personOf(person, 8), conflict ? 1 : 0);
            }
        }
    }

    private static void conflictsByAnyAuthor() {
        EDGES.sentence("worked with an author: any of several, the lowest, the highest, or somebody between");
        for (int author : new int[] {0, 4, 7}) {
            TokenReviews x = new TokenReviews();
            x.paper(0, 0b10010001);
            x.meet(author, 2);
            x.meet(2, 5);
            EDGES.due("worked with " + author, x.personOf(2, 8), 1);
            EDGES.due("worked with one who did", x.personOf(5, 8), 0);
            x.set(1, 2);
            EDGES.due("with a reach of 2", x.personOf(5, 8), 1);
            x.set(1, 0);
            EDGES.due("with a reach of 0", x.personOf(2, 8), 0);
            EDGES.due("an author with a reach of 0", x.personOf(author, 8), 1);
        }
        EDGES.sentence("worked with two authors, or with two who worked with an author: a conflict all the same");
        for (int reach = 1; reach < 3; reach++) {
            TokenReviews x = new TokenReviews();
            x.set(1, reach);
            x.paper(0, 0b0110);
            Edges.more(x, "m13 m23 m12 m34 m15 m45");
            EDGES.due("person 3 worked with 1 and 2", x.personOf(3, 8), 1);
            EDGES.due("persons 1 and 2 with one another", x.personOf(1, 8) + x.personOf(2, 8), 2);
            EDGES.due("person 4 worked with 3 and 5", x.personOf(4, 8), reach == 2 ? 1 : 0);
            EDGES.due("person 6 worked with nobody", x.personOf(6, 8), 0);
        }
        EDGES.sentence("conflicts of one paper are none of another");
        TokenReviews x = after("p00 p01 p07 m62");
        EDGES.due("person 0", x.personOf(0, 8), 1);
        EDGES.due("person 1", x.personOf(1, 8), 2);
        EDGES.due("person 7", x.personOf(7, 8), 4);
        EDGES.due("person 6", x.personOf(6, 8), 0);
    }

    private static void pool() {
        EDGES.sentence("each person, by ascending numbers, gets setting 2 tokens from the pool, as long as there are "
                + "so many in it (the others get none)");
        for (int share = 0; share < 10; share++) {
            int given = Math.min(8, share == 0 ? 8 : 100 / share);
            TokenReviews x = new TokenReviews();
            x.set(2, share);
            EDGES.due("week with " + share, x.week(), given * share);
            for (int person = 0; person < 8; person++) {
                EDGES.due("tokens of " + person, x.personOf(person, 0), person < given ? share : 0);
            }
            EDGES.due("pool", x.count(2), 100 - given * share);
        }
        for (int rest = 0; rest <= 24; rest++) {
            TokenReviews x = new TokenReviews();
            int left = emptied(x, rest);
            x.set(2, 3);
            EDGES.due("week from a pool of " + left, x.week(), left / 3 * 3);
            EDGES.due("what is left of " + left, x.count(2), left % 3);
            for (int person = 0; person < 8; person++) {
                int before = person < 4 ? 13 : 12;
                EDGES.due("tokens of " + person, x.personOf(person, 5), before + (person < left / 3 ? 3 : 0));
            }
        }
        EDGES.sentence("credit comes from the pool, too; tokens that are paid are spent, and do not come into it");
        TokenReviews x = after("c29 w p07 t00 t10 s00=1 s10=9 d0");
        EDGES.due("pool", x.count(2), 28);
        EDGES.due("spent", x.count(3), 6);
        EDGES.due("rebut", x.rebut(0), 12);
        EDGES.due("pool", x.count(2), 26);
        EDGES.due("came in", x.count(5), 100);
    }

    /** Gives the first 100 tokens out: 12 to each person, 13 to persons 0 to 3; then brings so many. */
    private static int emptied(TokenReviews x, int rest) {
        x.week();
        x.week();
        x.week();
        x.set(2, 1);
        x.week();
        if (rest > 0) {
            x.bring(rest);
        }
        return x.count(2);
    }

    private static void price() {
        EDGES.sentence("A person takes a review of a paper for 2 tokens, which are spent");
        EDGES.undoable(() -> after("c29 w p00"), "take(3, 0)", x -> x.take(3, 0), 0,
                "count(3) 0>2", "count(4) 72>70", "count(6) 0>1", "personOf(3, 0) 9>7", "personOf(3, 3) 0>1",
                "personOf(3, 6) 0>2", "paperOf(0, 2) 0>8", "score(3, 0) -1>10", "whyNot(3, 0) 0>2",
                "most(0) 3>2", "most(1) 3>2", "spentShare() 0.0>0.02");
    }

    /** Person 1 and paper 0, so that each of the reasons in the mask is so, and no other. */
    private static TokenReviews against(int reasons) {
        boolean decided = (reasons & 1) != 0;
        boolean has = (reasons & 2) != 0;
        boolean full = (reasons & 4) != 0;
        TokenReviews x = after("c22 w p05 p06");
        x.take(2, 0);
        x.write(2, 0, 6);
        if (has) {
            x.take(1, 0);
            x.write(1, 0, 7);
        } else {
            x.take(1, 1);
        }
        x.set(0, 1);
        if (decided) {
            x.decide(0);
        }
        x.set(0, full ? has ? 2 : 1 : 4);
        if ((reasons & 8) != 0) {
            x.meet(1, 5);
        }
        if ((reasons & 16) != 0) {
            x.topics(1, 14);
        }
        if ((reasons & 32) == 0) {
            x.week();
        }
        return x;
    }

    private static int firstOf(int reasons) {
        return reasons == 0 ? 0 : Integer.numberOfTrailingZeros(reasons) + 1;
    }

    private static void takeReasons() {
        EDGES.sentence("This is refused, for the first of these reasons that is so: 1: the paper is decided; 2: the "
                + "person has a review of it already; 3: the paper has setting 0 reviews, or more; 4: there is a "
                + "conflict; 5: the topic of the paper is none of the person's; 6: the person has fewer than 2 tokens");
        for (int reasons = 0; reasons < 64; reasons++) {
            int r = reasons;
            Edges.World w = () -> against(r);
            EDGES.plain(w, "whyNot with the reasons " + reasons, x -> x.whyNot(1, 0), firstOf(reasons));
            if (reasons == 0) {
                EDGES.due("take", w.make().take(1, 0), 0);
                EDGES.due("score", w.make().score(1, 0), -1);
            } else {
                EDGES.refused(w, "take with the reasons " + reasons, x -> x.take(1, 0), firstOf(reasons));
            }
        }
    }

    private static void takeReasonsInRuns() {
        EDGES.sentence("run: as take() does, up to the first one that is refused (and counted so)");
        for (int reasons = 0; reasons < 64; reasons++) {
            TokenReviews x = Edges.typed(against(reasons), "t10;w");
            int weeks = x.count(1);
            EDGES.due("run with the reasons " + reasons, x.run(), reasons == 0 ? 2 : 0);
            EDGES.due("refused", x.count(9), reasons == 0 ? 0 : 1);
            EDGES.due("weeks", x.count(1), reasons == 0 ? weeks + 1 : weeks);
        }
    }

    private static void fewerThanTwoTokens() {
        EDGES.sentence("6: the person has fewer than 2 tokens");
        for (int tokens = 0; tokens < 4; tokens++) {
            TokenReviews x = after("c2" + tokens + " w p00");
            EDGES.due("whyNot with " + tokens, x.whyNot(1, 0), tokens < 2 ? 6 : 0);
            EDGES.due("take with " + tokens, x.take(1, 0), tokens < 2 ? 6 : 0);
            EDGES.due("tokens then", x.personOf(1, 0), tokens < 2 ? tokens : tokens - 2);
        }
    }

    private static void fullPapers() {
        EDGES.sentence("3: the paper has setting 0 reviews, or more");
        for (int due = 1; due <= 4; due++) {
            TokenReviews x = after("c29 w p07 c0" + due);
            for (int person = 0; person < 6; person++) {
                EDGES.due("take number " + (person + 1) + " of " + due, x.take(person, 0), person < due ? 0 : 3);
            }
            EDGES.due("reviews", x.count(6), due);
            for (int fewer = 1; fewer <= 4; fewer++) {
                x.set(0, fewer);
                EDGES.due(due + " reviews, setting 0 as " + fewer, x.whyNot(6, 0), due >= fewer ? 3 : 0);
            }
        }
        EDGES.sentence("of reviews that are written and of those that are not");
        TokenReviews x = after("c29 w p07 c02 t00 s00=4 t10");
        EDGES.due("one of each", x.whyNot(2, 0), 3);
        x.drop(1, 0);
        EDGES.due("one was dropped", x.whyNot(2, 0), 0);
    }

    private static void scores() {
        EDGES.sentence("A review that was taken is written later, with a score, 0 to 9");
        Edges.World w = () -> after("c29 w p07 t00");
        for (int score = 0; score < 10; score++) {
            TokenReviews x = w.make();
            EDGES.due("write " + score, x.write(0, 0, score), 1);
            EDGES.due("score", x.score(0, 0), score);
            EDGES.due("sum", x.paperOf(0, 4), score);
            EDGES.due("writers", x.paperOf(0, 3), 1);
        }
        for (int bad : new int[] {-1, 10, 11, Integer.MIN_VALUE, Integer.MAX_VALUE}) {
            EDGES.argument(w, "write " + bad, x -> x.write(0, 0, bad));
        }
    }

    private static void dropping() {
        EDGES.sentence("One that is not written can be dropped: it is gone, and 1 of its tokens comes back to the "
                + "person (it is no longer spent)");
        EDGES.undoable(() -> after("c29 w p00 t30"), "drop(3, 0)", x -> x.drop(3, 0), 8,
                "count(3) 2>1", "count(4) 70>71", "count(6) 1>0", "personOf(3, 0) 7>8", "personOf(3, 3) 1>0",
                "personOf(3, 6) 2>1", "personOf(3, 7) 0>1", "paperOf(0, 2) 8>0", "score(3, 0) 10>-1",
                "whyNot(3, 0) 2>0", "most(0) 2>3", "most(1) 2>3", "spentShare() 0.02>0.01");
        EDGES.sentence("One that is written cannot be dropped, whatever its score");
        for (int score = 0; score < 10; score++) {
            int s = score;
            EDGES.state(() -> after("c29 w p00 t30 s30=" + s), "drop of a score of " + s, x -> x.drop(3, 0));
        }
    }

    /** Paper 0 with the reasons against a discussion in the mask: 1 decided, 2 few written, 4 no token. */
    private static TokenReviews againstTalk(int reasons) {
        TokenReviews x = after("c22 p07 w c01 t00 s00=3");
        if ((reasons & 2) == 0) {
            more(x, "c02 t10 s10=8");
        }
        if ((reasons & 1) != 0) {
            x.decide(0);
        }
        if ((reasons & 4) == 0) {
            x.week();
        }
        x.set(0, 4);
        return x;
    }

    private static TokenReviews more(TokenReviews x, String orders) {
        return Edges.more(x, orders);
    }

    private static void discussReasons() {
        EDGES.sentence("A discussion of a paper is refused, for the first of these reasons that is so: 1: the paper is "
                + "decided; 2: it has fewer than 2 written reviews; 3: a person with a written review of it has no token");
        for (int reasons = 1; reasons < 8; reasons++) {
            int r = reasons;
            EDGES.refused(() -> againstTalk(r), "discuss with the reasons " + r, x -> x.discuss(0), firstOf(r));
            TokenReviews x = Edges.typed(againstTalk(r), "d0;w");
            EDGES.due("run with the reasons " + r, x.run(), 0);
            EDGES.due("refused", x.count(9), 1);
        }
        EDGES.due("discuss without a reason", againstTalk(0).discuss(0), 12);
    }

    private static void fewerThanTwoWritten() {
        EDGES.sentence("2: it has fewer than 2 written reviews");
        EDGES.due("no review", after("c29 w p07").discuss(0), 2);
        EDGES.due("two that are not written", after("c29 w p07 t00 t10").discuss(0), 2);
        EDGES.due("one", after("c29 w p07 t00 s00=5").discuss(0), 2);
        EDGES.due("one, and one that is not written", after("c29 w p07 t00 t10 s00=5").discuss(0), 2);
        EDGES.due("two", after("c29 w p07 t00 t10 s00=5 s10=6").discuss(0), 11);
    }

    private static void noToken() {
        EDGES.sentence("3: a person with a written review of it has no token");
        for (int poor : new int[] {0, 4, 7}) {
            TokenReviews x = after("c23 w p06 p06 t00 t40 t70 s00=5 s40=5 s70=5 c22 w t" + poor + "1");
            EDGES.due("the poorest has one token", x.personOf(poor, 0), 1);
            EDGES.due("discuss with the last token of " + poor, x.discuss(0), 10);
            EDGES.due("discuss without a token of " + poor, x.discuss(0), 3);
        }
        EDGES.sentence("a person whose review is not written may be without tokens, and pays none");
        TokenReviews x = after("c22 w p07 p07 t00 t10 t20 s10=1 s20=3 w t01");
        EDGES.due("tokens of 0", x.personOf(0, 0), 0);
        EDGES.due("discuss", x.discuss(0), 12);
        EDGES.due("tokens of 0", x.personOf(0, 0), 0);
        EDGES.due("tokens of 1", x.personOf(1, 0), 1);
    }

    /** Persons 0, 1 and so on with these scores. */
    private static TokenReviews scored(int... scores) {
        TokenReviews x = after("c04 c29 w p07");
        for (int person = 0; person < scores.length; person++) {
            x.take(person, 0);
            x.write(person, 0, scores[person]);
        }
        return x;
    }

    private static void talk(int[] scores, int answer, int... behind) {
        TokenReviews x = scored(scores);
        EDGES.due("discuss", x.discuss(0), answer);
        for (int person = 0; person < behind.length; person++) {
            EDGES.due("score of " + person, x.score(person, 0), behind[person]);
        }
    }

    private static void scoresComeNearer() {
        EDGES.sentence("each score that is less than m becomes 1 more, each that is greater than m 1 less");
        talk(new int[] {4, 4}, 10, 4, 4);
        talk(new int[] {3, 5, 4}, 12, 4, 4, 4);
        talk(new int[] {0, 9}, 12, 1, 8);
        talk(new int[] {9, 0}, 12, 8, 1);
        talk(new int[] {0, 0, 9, 9}, 14, 1, 1, 8, 8);
        talk(new int[] {0, 0, 0, 0}, 10, 0, 0, 0, 0);
        talk(new int[] {9, 9, 9, 9}, 10, 9, 9, 9, 9);
        EDGES.sentence("(m is rounded down.)");
        talk(new int[] {0, 1}, 11, 0, 0);
        talk(new int[] {9, 8}, 11, 8, 8);
        talk(new int[] {5, 5, 4}, 12, 4, 4, 4);
        talk(new int[] {7, 7, 7, 6}, 13, 6, 6, 6, 6);
        EDGES.sentence("with m as the sum of the written scores divided by their number, ahead of it");
        talk(new int[] {3, 0, 0, 0}, 11, 2, 0, 0, 0);
        talk(new int[] {4, 0, 0, 0}, 14, 3, 1, 1, 1);
        talk(new int[] {0, 0, 0, 4}, 14, 1, 1, 1, 3);
        talk(new int[] {2, 1, 1, 0}, 12, 1, 1, 1, 1);
        TokenReviews x = scored(0, 8);
        x.take(2, 0);
        EDGES.due("one that is not written does not count", x.discuss(0), 12);
        EDGES.due("score of 0", x.score(0, 0), 1);
        EDGES.due("score of 1", x.score(1, 0), 7);
        EDGES.due("score of 2", x.score(2, 0), 10);
        EDGES.sentence("Otherwise each of these persons pays 1 token");
        EDGES.undoable(() -> after("c29 w p07 t20 t50 s20=4 s50=7"), "discuss(0)", y -> y.discuss(0), 12,
                "count(3) 4>6", "count(4) 68>66", "personOf(2, 0) 7>6", "personOf(2, 6) 2>3", "personOf(5, 0) 7>6",
                "personOf(5, 6) 2>3", "paperOf(0, 5) 3>1", "paperOf(0, 6) 0>1", "score(2, 0) 4>5", "score(5, 0) 7>6",
                "roundsToAgree(0) 1>0", "spentShare() 0.04>0.06");
    }

    private static void rebutReasons() {
        EDGES.sentence("A rebuttal of a paper is refused, for the first of these reasons that is so: 1: the paper is "
                + "decided; 2: it has no written review; 3: it had a rebuttal already");
        EDGES.refused(() -> after("c29 w p07 c01 t00 s00=3 D0"), "decided", x -> x.rebut(0), 1);
        EDGES.refused(() -> after("c29 w p07 c01 t00 s00=3 r0 D0"), "decided, had one", x -> x.rebut(0), 1);
        EDGES.refused(() -> after("c29 w p07"), "no review", x -> x.rebut(0), 2);
        EDGES.refused(() -> after("c29 w p07 t00"), "none written", x -> x.rebut(0), 2);
        EDGES.refused(() -> after("c29 w p07 t00 s00=3 r0"), "had one", x -> x.rebut(0), 3);
        String[] worlds = {"c29 w p07 c01 t00 s00=3 D0", "c29 w p07 t00", "c29 w p07 t00 s00=3 r0"};
        for (String orders : worlds) {
            TokenReviews x = Edges.typed(after(orders), "r0;w");
            EDGES.due("run of a rebuttal after " + orders, x.run(), 0);
            EDGES.due("refused", x.count(9), 1);
        }
        EDGES.undoable(() -> after("c29 w p07 t40 s40=5"), "one written, none had", x -> x.rebut(0), 11,
                "count(2) 28>27", "count(4) 70>71", "personOf(4, 0) 7>8", "personOf(4, 5) 9>10", "paperOf(0, 4) 5>6",
                "paperOf(0, 7) 0>1", "score(4, 0) 5>6", "meanScore(0) 5.0>6.0");
        EDGES.sentence("a rebuttal of one paper is none of another");
        EDGES.due("rebut(1)", after("c29 w p07 p07 t00 t01 s00=3 s01=3 r0").rebut(1), 11);
    }

    private static void leastScores() {
        EDGES.sentence("the least written score, of several that of the lowest person");
        int[][] before = {{5, 3, 3, 9}, {2, 2, 2, 2}, {9, 8, 7, 6}, {0, 1, 2, 3}, {4, 3, 4, 3}};
        int[] raised = {1, 0, 3, 0, 1};
        for (int i = 0; i < before.length; i++) {
            TokenReviews x = scored(before[i]);
            EDGES.due("rebut", x.rebut(0), 14);
            for (int person = 0; person < 4; person++) {
                EDGES.due("score of " + person, x.score(person, 0), before[i][person] + (person == raised[i] ? 1 : 0));
            }
        }
        TokenReviews y = after("c29 w p07 t00 t30 s30=9");
        EDGES.due("the first is not written", y.rebut(0), 11);
        EDGES.due("its score", y.score(0, 0), 10);
        EDGES.due("the written one", y.score(3, 0), 9);
        EDGES.sentence("becomes setting 3 more, at most 9");
        for (int gain = 0; gain < 4; gain++) {
            for (int score = 0; score < 10; score++) {
                TokenReviews x = scored(score);
                x.set(3, gain);
                x.rebut(0);
                EDGES.due("score " + score + " and " + gain, x.score(0, 0), Math.min(9, score + gain));
            }
        }
    }

    private static void credit() {
        EDGES.sentence("each person with a written review of the paper gets 1 token as credit, by ascending numbers, as "
                + "long as the pool has tokens");
        for (int pool = 0; pool < 6; pool++) {
            TokenReviews x = new TokenReviews();
            emptied(x, pool);
            more(x, "c04 p00 t70 t50 t30 t20 s70=1 s50=2 s30=3 s20=4");
            int given = Math.min(pool, 4);
            EDGES.due("rebut with a pool of " + pool, x.rebut(0), 10 + given);
            EDGES.due("pool", x.count(2), pool - given);
            int[] order = {2, 3, 5, 7};
            for (int i = 0; i < 4; i++) {
                int got = order[i] < 4 ? 13 : 12;
                EDGES.due("got " + order[i], x.personOf(order[i], 5), got + (i < given ? 1 : 0));
                EDGES.due("has " + order[i], x.personOf(order[i], 0), got - 2 + (i < given ? 1 : 0));
            }
            EDGES.due("the score rises all the same", x.score(7, 0), 2);
        }
        EDGES.sentence("a person whose review is not written gets no credit");
        TokenReviews x = after("c29 w p07 t00 t10 t20 s10=1");
        EDGES.due("rebut", x.rebut(0), 11);
        EDGES.due("got 0", x.personOf(0, 5), 9);
        EDGES.due("got 1", x.personOf(1, 5), 10);
        EDGES.due("got 2", x.personOf(2, 5), 9);
    }

    private static void canBeDecided() {
        EDGES.sentence("A paper can be decided if it has setting 0 written reviews or more");
        for (int due = 1; due <= 4; due++) {
            for (int written = 0; written <= 4; written++) {
                int d = due;
                int n = written;
                Edges.World w = () -> {
                    TokenReviews x = scored(new int[] {9, 8, 7, 6}, n);
                    x.set(0, d);
                    return x;
                };
                EDGES.due(n + " of " + d + ": paperOf(0, 9)", w.make().paperOf(0, 9), n >= d ? 1 : 0);
                if (n >= d) {
                    EDGES.due(n + " of " + d + ": decide", w.make().decide(0), 1);
                } else {
                    EDGES.state(w, n + " of " + d + ": decide", x -> x.decide(0));
                }
            }
        }
        EDGES.sentence("and no review that is not written");
        for (int late : new int[] {0, 3, 6}) {
            Edges.World w = () -> after("c29 c04 w p07 t00 t30 t60 s00=9 s30=9 s60=9 c01");
            EDGES.due("all are written", w.make().paperOf(0, 9), 1);
            Edges.World v = () -> {
                TokenReviews x = after("c29 c04 w p07 t00 t30 t60 c01");
                for (int person : new int[] {0, 3, 6}) {
                    if (person != late) {
                        x.write(person, 0, 9);
                    }
                }
                return x;
            };
            EDGES.due("that of " + late + " is not", v.make().paperOf(0, 9), 0);
            EDGES.state(v, "decide without that of " + late, x -> x.decide(0));
            EDGES.due("dropped", more(v.make(), "x" + late + "0").decide(0), 1);
        }
        EDGES.sentence("with setting 0 as 1 and no review it cannot be decided");
        EDGES.state(() -> after("c01 p00"), "decide", x -> x.decide(0));
        EDGES.sentence("a paper that is decided cannot be decided again");
        EDGES.due("paperOf(0, 9)", after("c29 w p07 c01 t00 s00=6 D0").paperOf(0, 9), 0);
        EDGES.state(() -> after("c29 w p07 c01 t00 s00=6 D0"), "decide", x -> x.decide(0));
        EDGES.state(() -> after("c29 w p07 c01 t00 s00=5 D0"), "decide, turned down", x -> x.decide(0));
    }

    private static TokenReviews scored(int[] scores, int number) {
        int[] first = new int[number];
        System.arraycopy(scores, 0, first, 0, number);
        return scored(first);
    }

    private static void takenOn() {
        EDGES.sentence("It is taken on if the sum of its scores is at least 6 times their number, otherwise turned down");
        int[][] enough = {{6}, {9}, {6, 6}, {3, 9}, {9, 9, 0}, {5, 6, 7}, {6, 6, 6, 6}, {9, 9, 6, 0}};
        int[][] fewer = {{5}, {0}, {6, 5}, {2, 9}, {9, 8, 0}, {5, 6, 6}, {6, 6, 6, 5}, {9, 9, 5, 0}, {0, 0, 0, 0}};
        for (int[] scores : enough) {
            TokenReviews x = scored(scores);
            x.set(0, 1);
            EDGES.due("decide", x.decide(0), 1);
            EDGES.due("verdict", x.paperOf(0, 8), 2);
        }
        for (int[] scores : fewer) {
            TokenReviews x = scored(scores);
            x.set(0, 1);
            EDGES.due("decide", x.decide(0), 0);
            EDGES.due("verdict", x.paperOf(0, 8), 1);
        }
    }

    private static void settings() {
        String[] words = {"0: reviews of a paper, 1 to 4", "1: how far conflicts reach, 0 to 2",
            "2: tokens a week, 0 to 9", "3: what a rebuttal brings, 0 to 3"};
        int[] least = {1, 0, 0, 0};
        int[] greatest = {4, 2, 9, 3};
        for (int setting = 0; setting < 4; setting++) {
            EDGES.sentence(words[setting]);
            int s = setting;
            for (int value = least[s]; value <= greatest[s]; value++) {
                TokenReviews x = new TokenReviews();
                x.set(s, value);
                EDGES.due("setting as " + value, x.setting(s), value);
            }
            EDGES.argument(TokenReviews::new, "below", x -> x.set(s, least[s] - 1));
            EDGES.argument(TokenReviews::new, "above", x -> x.set(s, greatest[s] + 1));
            for (int bad : Edges.FAR) {
                EDGES.argument(TokenReviews::new, "far off", x -> x.set(s, bad));
            }
        }
    }
}
