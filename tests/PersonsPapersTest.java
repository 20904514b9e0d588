/** Promises 1 to 7: a new object, papers, topics, who worked with whom, settings, tokens, weeks. */
public final class PersonsPapersTest {
    private static final Check CHECK = new Check("PersonsPapersTest");

    public static void main(String[] args) {
        newObject();
        papers();
        topics();
        meetings();
        settings();
        bringing();
        weeks();
        CHECK.end();
    }

    private static void newObject() {
        TokenReviews x = new TokenReviews();
        CHECK.due("NONE", TokenReviews.NONE, -1);
        int[] counts = {0, 0, 100, 0, 0, 100, 0, 0, 0, 0, 0, 0};
        for (int what = 0; what < 12; what++) {
            CHECK.due("count(" + what + ")", x.count(what), counts[what]);
        }
        for (int person = 0; person < 8; person++) {
            for (int what = 0; what < 9; what++) {
                CHECK.due("personOf(" + person + ", " + what + ")", x.personOf(person, what), what == 1 ? 15 : 0);
            }
        }
        CHECK.due("clearBuffer()", x.clearBuffer(), 0);
        CHECK.state("goBack(0)", x, () -> x.goBack(0));
        CHECK.state("goBack(1)", x, () -> x.goBack(1));
        CHECK.state("undo()", x, x::undo);
        int[] first = {3, 1, 4, 1};
        for (int setting = 0; setting < 4; setting++) {
            CHECK.due("setting(" + setting + ")", x.setting(setting), first[setting]);
        }
    }

    private static void papers() {
        TokenReviews x = new TokenReviews();
        for (int number = 0; number < 8; number++) {
            final int n = number;
            CHECK.argument("paper(-1, 1)", x, () -> x.paper(-1, 1));
            CHECK.argument("paper(4, 1)", x, () -> x.paper(4, 1));
            CHECK.argument("paper(0, 0)", x, () -> x.paper(0, 0));
            CHECK.argument("paper(0, -1)", x, () -> x.paper(0, -1));
            CHECK.argument("paper(0, 256)", x, () -> x.paper(0, 256));
            CHECK.index("paperOf(next, 0)", x, () -> x.paperOf(n, 0));
            CHECK.due("paper", x.paper(number % 4, number == 7 ? 255 : 1 << number), number);
            CHECK.due("count(0)", x.count(0), number + 1);
            CHECK.due("its topic", x.paperOf(number, 0), number % 4);
            CHECK.due("its authors", x.paperOf(number, 1), number == 7 ? 255 : 1 << number);
            CHECK.due("count(11)", x.count(11), Math.min(6, number + 1));
        }
        CHECK.state("a ninth paper", x, () -> x.paper(0, 1));
        CHECK.argument("a ninth paper that is wrong", x, () -> x.paper(0, 0));
        CHECK.due("undo", x.undo(), 5);
        CHECK.due("count(0)", x.count(0), 7);
        CHECK.due("paper again", x.paper(3, 2), 7);
        CHECK.due("its authors", x.paperOf(7, 1), 2);
    }

    private static void topics() {
        TokenReviews x = new TokenReviews();
        x.set(2, 9);
        x.week();
        x.paper(2, 1);
        CHECK.due("take", x.take(1, 0), 0);
        CHECK.due("topics(1, 11)", x.topics(1, 11), 15);
        CHECK.due("topics(1, 0)", x.topics(1, 0), 11);
        CHECK.due("personOf(1, 1)", x.personOf(1, 1), 0);
        CHECK.due("the review stays", x.score(1, 0), 10);
        CHECK.due("topics(2, 11)", x.topics(2, 11), 15);
        CHECK.due("whyNot(2, 0)", x.whyNot(2, 0), 5);
        CHECK.due("topics(2, 4)", x.topics(2, 4), 11);
        CHECK.due("whyNot(2, 0)", x.whyNot(2, 0), 0);
        CHECK.due("undo", x.undo(), 5);
        CHECK.due("personOf(2, 1)", x.personOf(2, 1), 11);
        CHECK.index("topics(8, 0)", x, () -> x.topics(8, 0));
        CHECK.index("topics(-1, 16)", x, () -> x.topics(-1, 16));
        CHECK.argument("topics(0, 16)", x, () -> x.topics(0, 16));
        CHECK.argument("topics(7, -1)", x, () -> x.topics(7, -1));
    }

    private static void meetings() {
        TokenReviews x = new TokenReviews();
        x.paper(0, 1);
        CHECK.due("meet(0, 1)", x.meet(0, 1), 1);
        CHECK.due("meet(2, 1)", x.meet(2, 1), 1);
        CHECK.due("meet(2, 3)", x.meet(2, 3), 1);
        CHECK.due("pairs", x.count(10), 3);
        CHECK.due("worked 1", x.personOf(1, 2), 5);
        CHECK.due("worked 2", x.personOf(2, 2), 10);
        int[][] conflicts = {{1, 0, 0, 0}, {1, 1, 0, 0}, {1, 1, 1, 0}};
        for (int reach = 0; reach < 3; reach++) {
            x.set(1, reach);
            for (int person = 0; person < 4; person++) {
                CHECK.due("reach " + reach + " person " + person, x.personOf(person, 8), conflicts[reach][person]);
                CHECK.due("reach " + reach + " whyNot " + person, x.whyNot(person, 0), conflicts[reach][person] == 1 ? 4 : 6);
            }
        }
        CHECK.due("meet(1, 0) again", x.meet(1, 0), 0);
        CHECK.due("pairs", x.count(10), 2);
        CHECK.due("worked 0", x.personOf(0, 2), 0);
        CHECK.due("no conflict any more", x.personOf(2, 8), 0);
        CHECK.due("undo", x.undo(), 5);
        CHECK.due("worked 0", x.personOf(0, 2), 2);
        CHECK.index("meet(8, 8)", x, () -> x.meet(8, 8));
        CHECK.index("meet(0, 8)", x, () -> x.meet(0, 8));
        CHECK.index("meet(-1, 0)", x, () -> x.meet(-1, 0));
        CHECK.argument("meet(0, 0)", x, () -> x.meet(0, 0));
        TokenReviews y = new TokenReviews();
        y.set(2, 9);
        y.week();
        y.paper(0, 1);
        y.take(5, 0);
        y.meet(5, 0);
        CHECK.due("the review stays", y.score(5, 0), 10);
        CHECK.due("count(6)", y.count(6), 1);
    }

    private static void settings() {
        TokenReviews x = new TokenReviews();
        int[] least = {1, 0, 0, 0};
        int[] greatest = {4, 2, 9, 3};
        int[] first = {3, 1, 4, 1};
        for (int setting = 0; setting < 4; setting++) {
            final int s = setting;
            CHECK.due("set to the least", x.set(s, least[s]), first[s]);
            CHECK.due("set to the greatest", x.set(s, greatest[s]), least[s]);
            CHECK.argument("set below", x, () -> x.set(s, least[s] - 1));
            CHECK.argument("set above", x, () -> x.set(s, greatest[s] + 1));
            CHECK.due("setting", x.setting(s), greatest[s]);
            x.undo();
            CHECK.due("setting after undo", x.setting(s), least[s]);
        }
        CHECK.index("set(4, 99)", x, () -> x.set(4, 99));
        CHECK.index("set(-1, 0)", x, () -> x.set(-1, 0));
        CHECK.index("setting(4)", x, () -> x.setting(4));
        CHECK.index("setting(-1)", x, () -> x.setting(-1));
    }

    private static void bringing() {
        TokenReviews x = new TokenReviews();
        CHECK.argument("bring(0)", x, () -> x.bring(0));
        CHECK.argument("bring(1000)", x, () -> x.bring(1000));
        CHECK.argument("bring(MIN)", x, () -> x.bring(Integer.MIN_VALUE));
        CHECK.argument("bring(MAX)", x, () -> x.bring(Integer.MAX_VALUE));
        for (int times = 1; times <= 10; times++) {
            CHECK.due("bring(999)", x.bring(999), 100 + 999 * times);
        }
        CHECK.due("count(5)", x.count(5), 10090);
        CHECK.state("bring(10)", x, () -> x.bring(10));
        CHECK.argument("bring(1000) at the end", x, () -> x.bring(1000));
        CHECK.due("bring(9)", x.bring(9), 10099);
        CHECK.state("bring(1)", x, () -> x.bring(1));
        x.undo();
        CHECK.due("count(5) after undo", x.count(5), 10090);
        CHECK.due("bring(9) again", x.bring(9), 10099);
        CHECK.due("week", x.week(), 32);
        CHECK.due("the pool", x.count(2), 10067);
        CHECK.due("what came stays", x.count(5), 10099);
    }

    private static void weeks() {
        TokenReviews x = new TokenReviews();
        CHECK.due("week 1", x.week(), 32);
        CHECK.due("week 2", x.week(), 32);
        CHECK.due("week 3", x.week(), 32);
        CHECK.due("pool", x.count(2), 4);
        CHECK.due("week 4 goes to the first alone", x.week(), 4);
        CHECK.due("person 0", x.personOf(0, 0), 16);
        CHECK.due("person 1", x.personOf(1, 0), 12);
        CHECK.due("got 0", x.personOf(0, 5), 16);
        CHECK.due("pool", x.count(2), 0);
        CHECK.due("week 5", x.week(), 0);
        CHECK.due("weeks", x.count(1), 5);
        CHECK.due("tokens of all", x.count(4), 100);
        x.bring(7);
        CHECK.due("a whole share or none", x.week(), 4);
        CHECK.due("rest of the pool", x.count(2), 3);
        x.set(2, 0);
        CHECK.due("a week of nothing", x.week(), 0);
        CHECK.due("weeks", x.count(1), 7);
        CHECK.due("undo", x.undo(), 5);
        CHECK.due("weeks", x.count(1), 6);
        TokenReviews y = new TokenReviews();
        y.set(2, 9);
        CHECK.due("eleven shares of 9, eight persons", y.week(), 72);
        CHECK.due("three shares are left", y.week(), 27);
        CHECK.due("person 2", y.personOf(2, 0), 18);
        CHECK.due("person 3", y.personOf(3, 0), 9);
        manyWeeks();
    }

    private static void manyWeeks() {
        TokenReviews x = new TokenReviews();
        for (int weeks = 0; weeks < 999; weeks++) {
            x.week();
        }
        CHECK.due("weeks", x.count(1), 999);
        CHECK.state("a thousandth week", x, x::week);
        Check.type(x, "w");
        CHECK.due("run of a thousandth week", x.run(), 0);
        CHECK.due("weeks", x.count(1), 999);
        CHECK.due("no refusal", x.count(9), 0);
    }
}
