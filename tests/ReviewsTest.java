/** Promises 8 to 13: reviews taken, written and dropped, discussions, rebuttals, decisions. */
public final class ReviewsTest {
    private static final Check CHECK = new Check("ReviewsTest");

    public static void main(String[] args) {
        taking();
        reasonsInOrder();
        writing();
        dropping();
        discussing();
        poorDiscussions();
        eachPersonPays();
        rebutting();
        creditFromASmallPool();
        deciding();
        CHECK.end();
    }

    /** Persons with 9 tokens each, one paper of person 0. */
    private static TokenReviews started() {
        TokenReviews x = new TokenReviews();
        x.set(2, 9);
        x.week();
        x.paper(1, 1);
        return x;
    }

    private static TokenReviews scored(int... scores) {
        TokenReviews x = started();
        x.set(0, 4);
        for (int i = 0; i < scores.length; i++) {
            CHECK.due("take", x.take(i + 1, 0), 0);
            CHECK.due("write", x.write(i + 1, 0, scores[i]), i + 1);
        }
        return x;
    }

    private static void taking() {
        TokenReviews x = started();
        CHECK.due("take(1, 0)", x.take(1, 0), 0);
        CHECK.due("tokens", x.personOf(1, 0), 7);
        CHECK.due("spent of 1", x.personOf(1, 6), 2);
        CHECK.due("spent", x.count(3), 2);
        CHECK.due("score", x.score(1, 0), 10);
        CHECK.due("reviewers", x.paperOf(0, 2), 2);
        CHECK.due("writers", x.paperOf(0, 3), 0);
        CHECK.due("load", x.personOf(1, 3), 1);
        CHECK.due("saved", x.count(11), 4);
        CHECK.due("taken twice", x.take(1, 0), 2);
        CHECK.due("refused", x.count(9), 1);
        CHECK.due("saved, though refused", x.count(11), 5);
        CHECK.due("undo", x.undo(), 4);
        CHECK.due("refused after undo", x.count(9), 0);
        CHECK.due("the review after one undo", x.score(1, 0), 10);
        CHECK.due("undo", x.undo(), 3);
        CHECK.due("the review after two", x.score(1, 0), -1);
        CHECK.due("tokens after two", x.personOf(1, 0), 9);
        for (int bad : new int[] {-1, 8, Integer.MAX_VALUE, Integer.MIN_VALUE}) {
            CHECK.index("take(" + bad + ", 0)", x, () -> x.take(bad, 0));
            CHECK.index("take(0, " + bad + ")", x, () -> x.take(0, bad));
            CHECK.index("drop(" + bad + ", 0)", x, () -> x.drop(bad, 0));
            CHECK.index("drop(0, " + bad + ")", x, () -> x.drop(0, bad));
            CHECK.index("write(" + bad + ", 0, 10)", x, () -> x.write(bad, 0, 10));
            CHECK.index("write(0, " + bad + ", 10)", x, () -> x.write(0, bad, 10));
            CHECK.index("discuss(" + bad + ")", x, () -> x.discuss(bad));
            CHECK.index("rebut(" + bad + ")", x, () -> x.rebut(bad));
            CHECK.index("decide(" + bad + ")", x, () -> x.decide(bad));
        }
        CHECK.index("take(1, 1)", x, () -> x.take(1, 1));
    }

    /** Person 1 gets every reason at once; they are taken away from the first to the last. */
    private static void reasonsInOrder() {
        TokenReviews x = new TokenReviews();
        x.set(0, 1);
        x.set(2, 2);
        x.week();
        x.paper(1, 4);
        x.take(1, 0);
        x.write(1, 0, 9);
        x.topics(1, 0);
        x.meet(1, 2);
        x.decide(0);
        CHECK.due("decided", x.take(1, 0), 1);
        CHECK.due("decided, another person", x.take(0, 0), 1);
        x.undo();
        x.undo();
        x.undo();
        CHECK.due("has it", x.take(1, 0), 2);
        x.topics(0, 0);
        x.meet(0, 2);
        CHECK.due("enough reviews", x.take(0, 0), 3);
        x.set(0, 2);
        CHECK.due("conflict", x.take(0, 0), 4);
        x.meet(0, 2);
        CHECK.due("topic", x.take(0, 0), 5);
        x.topics(0, 2);
        CHECK.due("no reason", x.whyNot(0, 0), 0);
        x.paper(1, 4);
        CHECK.due("take", x.take(0, 1), 0);
        CHECK.due("no tokens", x.take(0, 0), 6);
        x.set(2, 1);
        x.week();
        CHECK.due("one token is not enough", x.take(0, 0), 6);
        x.week();
        CHECK.due("two are", x.take(0, 0), 0);
        x.set(0, 1);
        CHECK.due("more reviews than due", x.take(3, 0), 3);
    }

    private static void writing() {
        TokenReviews x = started();
        CHECK.state("no review", x, () -> x.write(1, 0, 5));
        CHECK.argument("score 10, no review", x, () -> x.write(1, 0, 10));
        x.take(1, 0);
        x.take(2, 0);
        CHECK.due("write(1)", x.write(1, 0, 0), 1);
        CHECK.due("write(2)", x.write(2, 0, 9), 2);
        CHECK.due("mend", x.write(1, 0, 4), 2);
        CHECK.due("score", x.score(1, 0), 4);
        CHECK.due("sum", x.paperOf(0, 4), 13);
        CHECK.due("spread", x.paperOf(0, 5), 5);
        CHECK.due("writers", x.paperOf(0, 3), 6);
        CHECK.due("written by 1", x.personOf(1, 4), 1);
        CHECK.due("no tokens for it", x.personOf(1, 0), 7);
        CHECK.due("written", x.count(7), 2);
        CHECK.argument("score 10", x, () -> x.write(1, 0, 10));
        CHECK.argument("score -1", x, () -> x.write(1, 0, -1));
        x.undo();
        CHECK.due("score after undo", x.score(1, 0), 0);
        x.set(0, 2);
        x.decide(0);
        CHECK.state("decided", x, () -> x.write(1, 0, 5));
        CHECK.due("written after the decision", x.personOf(1, 4), 1);
        CHECK.due("load after the decision", x.personOf(1, 3), 0);
    }

    private static void dropping() {
        TokenReviews x = started();
        CHECK.state("no review", x, () -> x.drop(1, 0));
        x.take(1, 0);
        x.take(2, 0);
        x.write(2, 0, 3);
        CHECK.state("written", x, () -> x.drop(2, 0));
        CHECK.due("saved", x.count(11), 6);
        x.undo();
        CHECK.due("drop", x.drop(1, 0), 8);
        CHECK.due("drop saves a state", x.count(11), 6);
        CHECK.due("undo", x.undo(), 5);
        CHECK.due("taken again", x.score(1, 0), 10);
        x.write(2, 0, 3);
        CHECK.due("drop", x.drop(1, 0), 8);
        CHECK.due("gone", x.score(1, 0), -1);
        CHECK.due("dropped", x.personOf(1, 7), 1);
        CHECK.due("spent of 1", x.personOf(1, 6), 1);
        CHECK.due("got of 1", x.personOf(1, 5), 9);
        CHECK.due("spent", x.count(3), 3);
        CHECK.due("pool", x.count(2), 28);
        CHECK.state("twice", x, () -> x.drop(1, 0));
        CHECK.due("taken anew", x.take(1, 0), 0);
        CHECK.due("tokens", x.personOf(1, 0), 6);
        CHECK.due("drop again", x.drop(1, 0), 7);
        CHECK.due("dropped", x.personOf(1, 7), 2);
        x.undo();
        CHECK.due("dropped after undo", x.personOf(1, 7), 1);
    }

    private static void discussing() {
        TokenReviews x = scored(2, 9, 5, 5);
        CHECK.due("m is 5: two scores change", x.discuss(0), 12);
        CHECK.due("score 1", x.score(1, 0), 3);
        CHECK.due("score 2", x.score(2, 0), 8);
        CHECK.due("score 3", x.score(3, 0), 5);
        CHECK.due("discussions", x.paperOf(0, 6), 1);
        CHECK.due("tokens of one whose score stays", x.personOf(3, 0), 6);
        CHECK.due("spent", x.count(3), 12);
        CHECK.due("again", x.discuss(0), 12);
        CHECK.due("m is 5 still", x.discuss(0), 12);
        CHECK.due("sum", x.paperOf(0, 4), 21);
        CHECK.due("m is 5: only the greatest", x.discuss(0), 11);
        CHECK.due("alike: none", x.discuss(0), 10);
        CHECK.due("discussions", x.paperOf(0, 6), 5);
        x.undo();
        CHECK.due("discussions after undo", x.paperOf(0, 6), 4);
        TokenReviews y = scored(0, 1);
        CHECK.due("m is 0", y.discuss(0), 11);
        CHECK.due("score 2", y.score(2, 0), 0);
        TokenReviews z = scored(3);
        CHECK.due("one written", z.discuss(0), 2);
        z.take(2, 0);
        CHECK.due("one not written", z.discuss(0), 2);
        CHECK.due("refused", z.count(9), 2);
        CHECK.due("no discussion", z.paperOf(0, 6), 0);
        z.write(2, 0, 8);
        z.take(3, 0);
        CHECK.due("who has not written pays nothing", z.discuss(0), 12);
        CHECK.due("tokens of 3", z.personOf(3, 0), 7);
    }

    private static void poorDiscussions() {
        TokenReviews x = new TokenReviews();
        x.set(2, 3);
        x.week();
        x.paper(0, 128);
        x.take(0, 0);
        x.take(1, 0);
        CHECK.due("not written ahead of no token", x.discuss(0), 2);
        x.write(0, 0, 1);
        x.write(1, 0, 7);
        CHECK.due("with the last token", x.discuss(0), 12);
        CHECK.due("no token", x.discuss(0), 3);
        CHECK.due("refused", x.count(9), 2);
        CHECK.due("score stays", x.score(0, 0), 2);
        x.undo();
        CHECK.due("refused after undo", x.count(9), 1);
        x.set(0, 2);
        x.decide(0);
        CHECK.due("decided ahead of no token", x.discuss(0), 1);
        CHECK.due("decided, rebuttal", x.rebut(0), 1);
    }

    /** Of three persons one alone has no token: the first, the one between, the last. */
    private static void eachPersonPays() {
        int[] persons = {0, 3, 7};
        for (int poor : persons) {
            TokenReviews x = new TokenReviews();
            x.set(2, 3);
            x.week();
            x.paper(0, 32);
            x.paper(0, 32);
            for (int person : persons) {
                CHECK.due("take", x.take(person, 0), 0);
                x.write(person, 0, person == poor ? 1 : 5);
            }
            x.set(2, 2);
            x.bring(999);
            x.week();
            CHECK.due("take", x.take(poor, 1), 0);
            CHECK.due("tokens", x.personOf(poor, 0), 1);
            CHECK.due("paid by " + poor + " with the last token", x.discuss(0), 13);
            CHECK.due("no token", x.personOf(poor, 0), 0);
            for (int person : persons) {
                CHECK.due("spent", x.personOf(person, 6), person == poor ? 5 : 3);
            }
            CHECK.due("spent", x.count(3), 11);
            CHECK.due("no token of " + poor, x.discuss(0), 3);
            CHECK.due("credit", x.rebut(0), 13);
            CHECK.due("credit of " + poor, x.personOf(poor, 0), 1);
            CHECK.due("the least score rises", x.score(poor, 0), 3);
            CHECK.due("paid from credit", x.discuss(0), 12);
        }
    }

    private static void rebutting() {
        TokenReviews x = scored(5, 3, 3);
        x.set(3, 3);
        CHECK.due("rebut", x.rebut(0), 13);
        CHECK.due("the lowest of the least", x.score(2, 0), 6);
        CHECK.due("the other one", x.score(3, 0), 3);
        CHECK.due("had one", x.paperOf(0, 7), 1);
        CHECK.due("credit", x.personOf(1, 0), 8);
        CHECK.due("got", x.personOf(1, 5), 10);
        CHECK.due("pool", x.count(2), 25);
        CHECK.due("twice", x.rebut(0), 3);
        CHECK.due("refused", x.count(9), 1);
        x.undo();
        x.undo();
        CHECK.due("had none", x.paperOf(0, 7), 0);
        CHECK.due("score", x.score(2, 0), 3);
        x.set(3, 0);
        CHECK.due("brings nothing", x.rebut(0), 13);
        CHECK.due("score", x.score(2, 0), 3);
        TokenReviews y = scored(8);
        y.take(2, 0);
        y.set(3, 3);
        CHECK.due("rebut, one written", y.rebut(0), 11);
        CHECK.due("at most 9", y.score(1, 0), 9);
        CHECK.due("not written, no credit", y.personOf(2, 5), 9);
        TokenReviews z = started();
        CHECK.due("none written", z.rebut(0), 2);
        z.take(1, 0);
        CHECK.due("none written, one taken", z.rebut(0), 2);
        CHECK.due("no rebuttal", z.paperOf(0, 7), 0);
        z.write(1, 0, 9);
        CHECK.due("rebut", z.rebut(0), 11);
        CHECK.due("9 stays 9", z.score(1, 0), 9);
    }

    private static void creditFromASmallPool() {
        TokenReviews x = new TokenReviews();
        x.set(0, 4);
        x.set(2, 7);
        x.week();
        x.week();
        CHECK.due("pool", x.count(2), 2);
        x.paper(0, 1);
        for (int person = 4; person > 0; person--) {
            x.take(person, 0);
            x.write(person, 0, person);
        }
        CHECK.due("two tokens of credit", x.rebut(0), 12);
        CHECK.due("got 1", x.personOf(1, 5), 15);
        CHECK.due("got 2", x.personOf(2, 5), 15);
        CHECK.due("got 3", x.personOf(3, 5), 14);
        CHECK.due("pool", x.count(2), 0);
        x.paper(1, 1);
        x.take(2, 1);
        x.write(2, 1, 2);
        CHECK.due("no credit", x.rebut(1), 10);
        CHECK.due("the score rises all the same", x.score(2, 1), 3);
    }

    private static void deciding() {
        TokenReviews x = started();
        CHECK.state("no reviews", x, () -> x.decide(0));
        x.take(1, 0);
        x.take(2, 0);
        x.write(1, 0, 5);
        x.write(2, 0, 7);
        CHECK.state("two of three", x, () -> x.decide(0));
        CHECK.due("not now", x.paperOf(0, 9), 0);
        x.take(3, 0);
        x.set(0, 2);
        CHECK.state("one is not written", x, () -> x.decide(0));
        x.drop(3, 0);
        CHECK.due("now", x.paperOf(0, 9), 1);
        CHECK.due("not decided", x.paperOf(0, 8), 0);
        CHECK.due("12 is 6 times 2", x.decide(0), 1);
        CHECK.due("taken on", x.paperOf(0, 8), 2);
        CHECK.due("decided", x.count(8), 1);
        CHECK.due("not again", x.paperOf(0, 9), 0);
        CHECK.state("twice", x, () -> x.decide(0));
        x.undo();
        CHECK.due("not decided", x.paperOf(0, 8), 0);
        x.write(1, 0, 4);
        CHECK.due("11 is less", x.decide(0), 0);
        CHECK.due("turned down", x.paperOf(0, 8), 1);
        CHECK.due("refused", x.count(9), 0);
        TokenReviews y = scored(9, 9, 9);
        y.set(0, 1);
        CHECK.due("more than due", y.decide(0), 1);
        CHECK.due("reviews", y.count(6), 3);
    }
}
