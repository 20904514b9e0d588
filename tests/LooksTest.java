/** Promises 21 to 33: the looks, and what would be. */
public final class LooksTest {
    private static final Check CHECK = new Check("LooksTest");

    public static void main(String[] args) {
        wrongArguments();
        persons();
        papers();
        counts();
        bestReviewers();
        mostReviews();
        exchanges();
        neededPersons();
        eachPersonIsNeeded();
        rounds();
        means();
        shares();
        digests();
        CHECK.end();
    }

    private static TokenReviews started() {
        TokenReviews x = new TokenReviews();
        x.set(2, 9);
        x.week();
        return x;
    }

    private static void wrongArguments() {
        TokenReviews x = started();
        x.paper(0, 1);
        for (int bad : new int[] {-1, 8, Integer.MIN_VALUE, Integer.MAX_VALUE}) {
            CHECK.index("personOf(" + bad + ", 9)", x, () -> x.personOf(bad, 9));
            CHECK.index("paperOf(" + bad + ", 10)", x, () -> x.paperOf(bad, 10));
            CHECK.index("score(" + bad + ", 0)", x, () -> x.score(bad, 0));
            CHECK.index("score(0, " + bad + ")", x, () -> x.score(0, bad));
            CHECK.index("whyNot(" + bad + ", 0)", x, () -> x.whyNot(bad, 0));
            CHECK.index("whyNot(0, " + bad + ")", x, () -> x.whyNot(0, bad));
            CHECK.index("bestReviewer(" + bad + ")", x, () -> x.bestReviewer(bad));
            CHECK.index("roundsToAgree(" + bad + ")", x, () -> x.roundsToAgree(bad));
            CHECK.index("meanScore(" + bad + ")", x, () -> x.meanScore(bad));
            CHECK.index("setting(" + bad + ")", x, () -> x.setting(bad));
        }
        for (int bad : new int[] {-1, 12, Integer.MIN_VALUE, Integer.MAX_VALUE}) {
            CHECK.argument("personOf(0, " + bad + ")", x, () -> x.personOf(0, bad));
            CHECK.argument("paperOf(0, " + bad + ")", x, () -> x.paperOf(0, bad));
            CHECK.argument("count(" + bad + ")", x, () -> x.count(bad));
            CHECK.argument("most(" + bad + ")", x, () -> x.most(bad));
        }
        CHECK.argument("personOf(0, 9)", x, () -> x.personOf(0, 9));
        CHECK.argument("paperOf(0, 10)", x, () -> x.paperOf(0, 10));
        CHECK.argument("most(2)", x, () -> x.most(2));
        CHECK.index("setting(4)", x, () -> x.setting(4));
        CHECK.index("score(0, 1)", x, () -> x.score(0, 1));
        CHECK.index("whyNot(0, 1)", x, () -> x.whyNot(0, 1));
        CHECK.index("meanScore(1)", x, () -> x.meanScore(1));
    }

    private static void dueAll(String name, int[] got, int... want) {
        for (int i = 0; i < want.length; i++) {
            CHECK.due(name + " " + i, got[i], want[i]);
        }
    }

    private static int[] personOf(TokenReviews x, int person) {
        int[] got = new int[9];
        for (int what = 0; what < 9; what++) {
            got[what] = x.personOf(person, what);
        }
        return got;
    }

    private static int[] paperOf(TokenReviews x, int paper) {
        int[] got = new int[10];
        for (int what = 0; what < 10; what++) {
            got[what] = x.paperOf(paper, what);
        }
        return got;
    }

    private static int[] counts(TokenReviews x) {
        int[] got = new int[12];
        for (int what = 0; what < 12; what++) {
            got[what] = x.count(what);
        }
        return got;
    }

    /** Two papers; person 1 has both, the first is decided; person 2 wrote the second and dropped one. */
    private static TokenReviews busy() {
        TokenReviews x = started();
        x.set(0, 1);
        x.paper(1, 1);
        x.paper(3, 129);
        x.meet(0, 5);
        x.meet(6, 5);
        x.take(2, 0);
        x.drop(2, 0);
        x.take(1, 0);
        x.write(1, 0, 7);
        x.decide(0);
        x.set(0, 4);
        x.take(1, 1);
        x.take(2, 1);
        x.write(2, 1, 2);
        x.take(3, 1);
        x.write(3, 1, 6);
        x.discuss(1);
        x.rebut(1);
        x.topics(2, 9);
        x.take(5, 1);
        return x;
    }

    private static void persons() {
        TokenReviews x = busy();
        dueAll("person 0", personOf(x, 0), 9, 15, 32, 0, 0, 9, 0, 0, 3);
        dueAll("person 1", personOf(x, 1), 5, 15, 0, 1, 1, 9, 4, 0, 0);
        dueAll("person 2", personOf(x, 2), 6, 9, 0, 1, 1, 10, 4, 1, 0);
        dueAll("person 3", personOf(x, 3), 7, 15, 0, 1, 1, 10, 3, 0, 0);
        dueAll("person 5", personOf(x, 5), 9, 15, 65, 0, 0, 9, 0, 0, 3);
        dueAll("person 6", personOf(x, 6), 9, 15, 32, 0, 0, 9, 0, 0, 0);
        dueAll("person 7", personOf(x, 7), 9, 15, 0, 0, 0, 9, 0, 0, 2);
        x.set(1, 2);
        CHECK.due("person 6 with a reach of 2", x.personOf(6, 8), 3);
        x.set(1, 0);
        CHECK.due("person 5 with a reach of 0", x.personOf(5, 8), 0);
    }

    private static void papers() {
        TokenReviews x = busy();
        dueAll("paper 0", paperOf(x, 0), 1, 1, 2, 2, 7, 0, 0, 0, 2, 0);
        dueAll("paper 1", paperOf(x, 1), 3, 129, 14, 12, 9, 1, 1, 1, 0, 0);
        CHECK.due("score(1, 1)", x.score(1, 1), 10);
        CHECK.due("score(2, 1)", x.score(2, 1), 4);
        CHECK.due("score(3, 1)", x.score(3, 1), 5);
        CHECK.due("score(4, 1)", x.score(4, 1), -1);
        CHECK.due("spread of none", scored().paperOf(0, 5), 0);
        CHECK.due("spread of 0", scored(0).paperOf(0, 5), 0);
        CHECK.due("spread of 9", scored(9).paperOf(0, 5), 0);
        CHECK.due("spread of 0, 0", scored(0, 0).paperOf(0, 5), 0);
        CHECK.due("spread of 9, 9", scored(9, 9).paperOf(0, 5), 0);
        CHECK.due("spread of 4, 0, 9", scored(4, 0, 9).paperOf(0, 5), 9);
    }

    private static void counts() {
        TokenReviews x = busy();
        dueAll("count", counts(x), 2, 1, 26, 11, 63, 100, 4, 3, 1, 1, 2, 6);
        x.bring(5);
        dueAll("count", counts(x), 2, 1, 31, 11, 63, 105, 4, 3, 1, 1, 2, 6);
    }

    private static void bestReviewers() {
        TokenReviews x = started();
        x.paper(0, 1);
        x.paper(1, 2);
        x.paper(2, 4);
        CHECK.due("all alike: the lowest without a conflict", x.bestReviewer(0), 1);
        x.take(1, 1);
        CHECK.due("refused", x.count(9), 1);
        x.take(1, 2);
        CHECK.due("the fewest reviews", x.bestReviewer(0), 2);
        x.take(2, 1);
        x.take(3, 1);
        x.take(4, 1);
        x.drop(3, 1);
        x.take(5, 2);
        x.take(6, 2);
        CHECK.due("the most tokens of those with none", x.bestReviewer(0), 7);
        x.topics(7, 0);
        CHECK.due("one with fewer tokens, but no review", x.bestReviewer(0), 3);
        x.topics(3, 0);
        CHECK.due("the lowest of those with one", x.bestReviewer(0), 1);
        CHECK.due("of paper 1: person 0 with none", x.bestReviewer(1), 0);
        x.set(0, 1);
        CHECK.due("enough reviews", x.bestReviewer(1), -1);
        decidedReviewsDoNotCount();
    }

    private static void decidedReviewsDoNotCount() {
        TokenReviews x = started();
        x.set(0, 1);
        x.paper(0, 1);
        x.paper(0, 253);
        CHECK.due("take", x.take(1, 0), 0);
        CHECK.due("only 1 is no author", x.bestReviewer(1), 1);
        x.write(1, 0, 0);
        x.decide(0);
        CHECK.due("of the decided paper none", x.bestReviewer(0), -1);
        x.paper(0, 128);
        CHECK.due("no loads: the most tokens", x.bestReviewer(2), 0);
        x.take(0, 2);
        x.drop(0, 2);
        x.topics(2, 0);
        x.topics(3, 0);
        x.topics(4, 0);
        x.topics(5, 0);
        x.topics(6, 0);
        CHECK.due("0 has one token more than 1", x.bestReviewer(2), 0);
    }

    private static void bothMost(TokenReviews x, String name, int want) {
        CHECK.due(name + ": most(0)", x.most(0), want);
        CHECK.due(name + ": most(1)", x.most(1), want);
    }

    private static void mostReviews() {
        TokenReviews x = new TokenReviews();
        bothMost(x, "no papers", 0);
        x.paper(0, 1);
        bothMost(x, "no tokens", 0);
        x.set(2, 1);
        x.week();
        bothMost(x, "one token each", 0);
        x.week();
        bothMost(x, "two tokens each", 3);
        x.set(0, 4);
        bothMost(x, "four due", 4);
        x.paper(1, 1);
        bothMost(x, "two papers, seven persons", 7);
        x.week();
        bothMost(x, "three tokens each", 7);
        x.week();
        bothMost(x, "four tokens each", 8);
        x.take(1, 0);
        bothMost(x, "one taken", 7);
        x.topics(2, 0);
        x.topics(3, 1);
        x.topics(4, 1);
        x.topics(5, 0);
        x.topics(6, 0);
        x.topics(7, 0);
        bothMost(x, "topics", 3);
        x.write(1, 0, 9);
        x.set(0, 1);
        bothMost(x, "paper 0 has more than due", 1);
        x.decide(0);
        x.set(0, 4);
        bothMost(x, "paper 0 is decided", 1);
        x.meet(1, 0);
        bothMost(x, "a conflict", 0);
    }

    /** Whoever comes first takes what another needs, so that persons must be exchanged along a long way. */
    private static void exchanges() {
        TokenReviews x = new TokenReviews();
        x.set(2, 2);
        x.set(0, 1);
        x.set(1, 0);
        x.week();
        for (int paper = 0; paper < 4; paper++) {
            x.paper(paper, 128);
        }
        x.topics(0, 15);
        x.topics(1, 7);
        x.topics(2, 3);
        x.topics(3, 1);
        for (int person = 4; person < 8; person++) {
            x.topics(person, 0);
        }
        bothMost(x, "a chain of four", 4);
        CHECK.due("all are needed alike", x.needed(), 0);
        x.topics(3, 0);
        bothMost(x, "a chain of three", 3);
        x.set(0, 2);
        x.set(2, 4);
        x.week();
        bothMost(x, "three times each: 2 of each paper but the last", 7);
    }

    private static void neededPersons() {
        TokenReviews x = started();
        CHECK.due("no papers", x.needed(), 0);
        x.set(0, 4);
        x.paper(0, 1);
        CHECK.due("others stand in", x.needed(), 0);
        for (int person = 0; person < 8; person++) {
            x.topics(person, person == 3 || person == 5 ? 1 : 0);
        }
        CHECK.due("the lowest of two", x.needed(), 3);
        x.paper(1, 1);
        x.topics(5, 3);
        bothMost(x, "three", 3);
        CHECK.due("the one with two papers", x.needed(), 5);
        x.take(5, 1);
        CHECK.due("the lowest again", x.needed(), 3);
        x.take(3, 0);
        CHECK.due("reviews that were taken stay", x.needed(), 5);
    }

    /** Each person in turn is the one with the most papers that no other may review. */
    private static void eachPersonIsNeeded() {
        for (int person = 0; person < 8; person++) {
            TokenReviews x = started();
            x.set(1, 0);
            x.paper(0, 255 ^ 1 << person);
            CHECK.due("needed " + person, x.needed(), person);
            CHECK.due("digest with needed " + person, x.digest(), digestOf(x, new int[] {0, 0}, ""));
            x.topics(person, 0);
            CHECK.due("no one is", x.needed(), 0);
        }
    }

    private static TokenReviews scored(int... scores) {
        TokenReviews x = started();
        x.paper(0, 128);
        x.set(0, 4);
        for (int i = 0; i < scores.length; i++) {
            x.take(i, 0);
            x.write(i, 0, scores[i]);
        }
        return x;
    }

    private static void rounds() {
        CHECK.due("no scores", scored().roundsToAgree(0), 0);
        CHECK.due("one score", scored(7).roundsToAgree(0), 0);
        CHECK.due("1 apart", scored(7, 8).roundsToAgree(0), 0);
        CHECK.due("2 apart", scored(7, 9).roundsToAgree(0), 1);
        CHECK.due("0 and 9", scored(0, 9).roundsToAgree(0), 4);
        CHECK.due("3 apart", scored(0, 3).roundsToAgree(0), 1);
        CHECK.due("0, 9, 9", scored(0, 9, 9).roundsToAgree(0), 4);
        CHECK.due("0, 0, 0, 9", scored(0, 0, 0, 9).roundsToAgree(0), 5);
        CHECK.due("0, 0, 9, 9", scored(0, 0, 9, 9).roundsToAgree(0), 4);
        TokenReviews x = scored(0, 9);
        x.take(4, 0);
        x.set(2, 0);
        CHECK.due("with one that is not written", x.roundsToAgree(0), 4);
        CHECK.due("nothing changes", x.score(0, 0), 0);
        CHECK.due("no discussion", x.paperOf(0, 6), 0);
        x.drop(4, 0);
        x.set(0, 2);
        x.decide(0);
        CHECK.due("also of a paper that is decided", x.roundsToAgree(0), 4);
        for (int a = 0; a < 10; a++) {
            for (int b = 0; b < 10; b++) {
                TokenReviews y = scored(a, b, 5);
                int rounds = y.roundsToAgree(0);
                int done = 0;
                while (y.paperOf(0, 5) > 1 && y.discuss(0) >= 10) {
                    done++;
                }
                CHECK.due("rounds of " + a + " " + b, rounds, done);
            }
        }
    }

    private static void means() {
        CHECK.dueDouble("none", scored().meanScore(0), -1.0);
        CHECK.dueDouble("7", scored(7).meanScore(0), 7.0);
        CHECK.dueDouble("0, 0", scored(0, 0).meanScore(0), 0.0);
        CHECK.dueDouble("1, 2", scored(1, 2).meanScore(0), 1.5);
        CHECK.dueDouble("1, 2, 2", scored(1, 2, 2).meanScore(0), 5.0 / 3.0);
        CHECK.dueDouble("9, 9, 9, 8", scored(9, 9, 9, 8).meanScore(0), 8.75);
        TokenReviews x = scored(4);
        x.take(6, 0);
        CHECK.dueDouble("one that is not written", x.meanScore(0), 4.0);
    }

    private static void shares() {
        TokenReviews x = started();
        CHECK.dueDouble("nothing spent", x.spentShare(), 0.0f);
        x.paper(0, 1);
        x.take(1, 0);
        CHECK.dueDouble("two of a hundred", x.spentShare(), 2.0f / 100.0f);
        x.bring(999);
        CHECK.dueDouble("two of 1099", x.spentShare(), 2.0f / 1099.0f);
        x.drop(1, 0);
        CHECK.dueDouble("one of 1099", x.spentShare(), 1.0f / 1099.0f);
    }

    /** The list of promise 33, from the answers of the other calls. */
    static long digestOf(TokenReviews x, int[] kept, String buffer) {
        long hash = 3449;
        for (int what = 0; what < 12; what++) {
            hash = 31 * hash + x.count(what);
        }
        for (int setting = 0; setting < 4; setting++) {
            hash = 31 * hash + x.setting(setting);
        }
        for (int person = 0; person < 8; person++) {
            for (int what = 0; what < 9; what++) {
                hash = 31 * hash + x.personOf(person, what);
            }
        }
        for (int paper = 0; paper < x.count(0); paper++) {
            for (int what = 0; what < 10; what++) {
                hash = 31 * hash + x.paperOf(paper, what);
            }
            for (int person = 0; person < 8; person++) {
                hash = 31 * hash + x.score(person, paper);
            }
            hash = 31 * hash + x.bestReviewer(paper);
            hash = 31 * hash + x.roundsToAgree(paper);
            hash = 31 * hash + Double.doubleToLongBits(x.meanScore(paper));
        }
        hash = 31 * hash + x.most(0);
        hash = 31 * hash + x.most(1);
        hash = 31 * hash + x.needed();
        hash = 31 * hash + Float.floatToIntBits(x.spentShare());
        hash = 31 * hash + kept[0];
        hash = 31 * hash + kept[1];
        hash = 31 * hash + buffer.length();
        for (int i = 0; i < buffer.length(); i++) {
            hash = 31 * hash + buffer.charAt(i);
        }
        return hash;
    }

    private static void digests() {
        TokenReviews x = new TokenReviews();
        CHECK.due("new", x.digest(), digestOf(x, new int[] {0, 0}, ""));
        TokenReviews y = busy();
        CHECK.due("busy", y.digest(), digestOf(y, new int[] {0, 0}, ""));
        y.keep(1);
        CHECK.due("slot 1", y.digest(), digestOf(y, new int[] {0, 1}, ""));
        y.keep(0);
        Check.type(y, "t0~!");
        CHECK.due("a buffer", y.digest(), digestOf(y, new int[] {1, 1}, "t0~!"));
        for (int sum = 0; sum <= 27; sum++) {
            TokenReviews z = scored(sum / 3, (sum + 1) / 3, (sum + 2) / 3);
            CHECK.due("a third", z.digest(), digestOf(z, new int[] {0, 0}, ""));
        }
        TokenReviews far = scored(0, 9, 4);
        CHECK.due("scores far apart", far.digest(), digestOf(far, new int[] {0, 0}, ""));
        TokenReviews z = scored(1);
        for (int times = 0; times < 10; times++) {
            z.bring(999);
            CHECK.due("a small share", z.digest(), digestOf(z, new int[] {0, 0}, ""));
        }
    }
}
