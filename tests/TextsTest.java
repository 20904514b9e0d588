/** Promises 14 to 20: the buffer, its first error, runs, snapshots and undo. */
public final class TextsTest {
    private static final Check CHECK = new Check("TextsTest");

    public static void main(String[] args) {
        appending();
        errors();
        eachCharacterInEachPlace();
        running();
        stoppedRuns();
        keeping();
        undoing();
        allComesBack();
        doneWithoutAChange();
        CHECK.end();
    }

    private static void appending() {
        TokenReviews x = new TokenReviews();
        for (int bad : new int[] {32, 127, 0, -1, 256 + 't', Integer.MAX_VALUE, Integer.MIN_VALUE}) {
            CHECK.argument("append(" + bad + ")", x, () -> x.append(bad));
        }
        CHECK.due("append(33)", x.append(33), 1);
        CHECK.due("append(126)", x.append(126), 2);
        for (int length = 3; length <= 60; length++) {
            CHECK.due("append", x.append('w'), length);
        }
        CHECK.state("a 61st", x, () -> x.append('w'));
        CHECK.argument("a 61st that is wrong", x, () -> x.append(32));
        CHECK.due("nothing saved", x.count(11), 0);
        CHECK.due("firstError", x.firstError(), 0);
        CHECK.due("clearBuffer", x.clearBuffer(), 60);
        CHECK.due("clearBuffer", x.clearBuffer(), 0);
        CHECK.due("append anew", x.append('w'), 1);
    }

    private static void errorAt(String text, int want, boolean whole) {
        TokenReviews x = new TokenReviews();
        Check.type(x, text);
        CHECK.due("firstError of " + text, x.firstError(), want);
        if (whole) {
            x.run();
            CHECK.due("cleared", x.clearBuffer(), 0);
            CHECK.due("saved by run of " + text, x.count(11), 1);
        } else {
            CHECK.argument("run of " + text, x, x::run);
            CHECK.due("not cleared", x.clearBuffer(), text.length());
        }
    }

    private static void errors() {
        errorAt("", 0, false);
        errorAt(";", 0, false);
        errorAt("w", 1, true);
        errorAt("w;", 2, false);
        errorAt("w;;", 2, false);
        errorAt("ww", 1, false);
        errorAt("t", 1, false);
        errorAt("t7", 2, false);
        errorAt("t77", 3, true);
        errorAt("t87", 1, false);
        errorAt("t78", 2, false);
        errorAt("t777", 3, false);
        errorAt("s01=9", 5, true);
        errorAt("s01=", 4, false);
        errorAt("s01", 3, false);
        errorAt("s019", 3, false);
        errorAt("s01==", 4, false);
        errorAt("s81=1", 1, false);
        errorAt("s18=1", 2, false);
        errorAt("s01=99", 5, false);
        errorAt("x00", 3, true);
        errorAt("x08", 2, false);
        errorAt("d7", 2, true);
        errorAt("d8", 1, false);
        errorAt("r7;w;t00;s00=0;x00;d0", 21, true);
        errorAt("r9", 1, false);
        errorAt("W", 0, false);
        errorAt("w;q;;", 2, false);
        StringBuilder weeks = new StringBuilder("w");
        for (int i = 1; i < 30; i++) {
            weeks.append(";w");
        }
        errorAt(weeks.toString(), 59, true);
        errorAt(weeks + ";", 60, false);
    }

    /** After each beginning, each character that may come next, and no other. */
    private static void eachCharacterInEachPlace() {
        String[][] places = {{"", "tsxdrw"}, {"t", "01234567"}, {"t0", "01234567"}, {"t00", ";"},
            {"s", "01234567"}, {"s0", "01234567"}, {"s00", "="}, {"s00=", "0123456789"}, {"s00=0", ";"},
            {"x", "01234567"}, {"x0", "01234567"}, {"x00", ";"}, {"d", "01234567"}, {"d0", ";"},
            {"r", "01234567"}, {"r0", ";"}, {"w", ";"}, {"w;", "tsxdrw"}};
        for (String[] place : places) {
            for (char c = 33; c <= 126; c++) {
                TokenReviews x = new TokenReviews();
                Check.type(x, place[0] + c);
                int want = place[0].length() + (place[1].indexOf(c) >= 0 ? 1 : 0);
                CHECK.due("firstError of " + place[0] + c, x.firstError(), want);
            }
        }
    }

    private static void running() {
        TokenReviews x = new TokenReviews();
        x.paper(0, 1);
        x.paper(1, 128);
        Check.type(x, "w;t10;t20;s10=3;s20=8;d0;r0;t11;x11;w");
        CHECK.due("run", x.run(), 10);
        CHECK.due("weeks", x.count(1), 2);
        CHECK.due("score of 1", x.score(1, 0), 5);
        CHECK.due("score of 2", x.score(2, 0), 7);
        CHECK.due("discussions", x.paperOf(0, 6), 1);
        CHECK.due("rebuttal", x.paperOf(0, 7), 1);
        CHECK.due("dropped", x.personOf(1, 7), 1);
        CHECK.due("tokens of 1", x.personOf(1, 0), 8 - 2 - 1 + 1 - 1);
        CHECK.due("the buffer is clear", x.clearBuffer(), 0);
        CHECK.due("one state saved", x.count(11), 3);
        CHECK.due("undo of all", x.undo(), 2);
        CHECK.due("weeks", x.count(1), 0);
        CHECK.due("reviews", x.count(6), 0);
    }

    private static void stopped(String text, int done, int refused) {
        TokenReviews x = new TokenReviews();
        x.paper(0, 1);
        x.week();
        Check.type(x, text);
        CHECK.due("run of " + text, x.run(), done);
        CHECK.due("refused in " + text, x.count(9), refused);
        CHECK.due("weeks after " + text, x.count(1), done + 1);
        CHECK.due("saved after " + text, x.count(11), 3);
        CHECK.due("buffer after " + text, x.clearBuffer(), 0);
        x.undo();
        CHECK.due("weeks after undo", x.count(1), 1);
        CHECK.due("refused after undo", x.count(9), 0);
    }

    private static void stoppedRuns() {
        stopped("w;w;t00;w", 2, 1);
        stopped("w;t01;w", 1, 0);
        stopped("s10=5;w", 0, 0);
        stopped("s11=5;w", 0, 0);
        stopped("x10;w", 0, 0);
        stopped("w;x11;w", 1, 0);
        stopped("w;d0;w", 1, 1);
        stopped("w;d1;w", 1, 0);
        stopped("r0;w", 0, 1);
        stopped("r1;w", 0, 0);
        TokenReviews x = new TokenReviews();
        x.set(0, 1);
        x.paper(0, 1);
        x.week();
        Check.type(x, "t10;s10=9;s10=4;t10;w");
        CHECK.due("run", x.run(), 3);
        CHECK.due("mended", x.score(1, 0), 4);
        x.decide(0);
        Check.type(x, "s10=9");
        CHECK.due("run on a decided paper", x.run(), 0);
        CHECK.due("refused", x.count(9), 1);
        Check.type(x, "t20");
        CHECK.due("run on a decided paper", x.run(), 0);
        CHECK.due("refused", x.count(9), 2);
    }

    private static void keeping() {
        TokenReviews x = new TokenReviews();
        CHECK.argument("keep(2)", x, () -> x.keep(2));
        CHECK.argument("keep(-1)", x, () -> x.keep(-1));
        CHECK.argument("goBack(2)", x, () -> x.goBack(2));
        CHECK.argument("goBack(-1)", x, () -> x.goBack(-1));
        x.paper(0, 1);
        x.set(2, 9);
        x.week();
        x.discuss(0);
        CHECK.due("keep(0)", x.keep(0), 1);
        CHECK.due("keep saves no state", x.count(11), 4);
        CHECK.state("goBack(1)", x, () -> x.goBack(1));
        x.take(1, 0);
        x.write(1, 0, 5);
        x.paper(2, 6);
        x.topics(3, 1);
        x.meet(3, 4);
        x.set(0, 1);
        x.bring(50);
        x.rebut(1);
        x.decide(0);
        Check.type(x, "t00;");
        CHECK.due("keep(1)", x.keep(1), 2);
        long later = x.digest();
        CHECK.due("goBack(0)", x.goBack(0), 1);
        CHECK.due("saved", x.count(11), 6);
        CHECK.due("refused", x.count(9), 1);
        CHECK.due("what came", x.count(5), 100);
        CHECK.due("reviews", x.count(6), 0);
        CHECK.due("pairs", x.count(10), 0);
        CHECK.due("topics", x.personOf(3, 1), 15);
        CHECK.due("setting", x.setting(0), 3);
        CHECK.due("decided", x.count(8), 0);
        CHECK.due("the buffer stays", x.firstError(), 4);
        CHECK.due("goBack(1)", x.goBack(1), 2);
        CHECK.due("all as it was", x.digest(), later);
        CHECK.due("undo of goBack", x.undo(), 5);
        CHECK.due("papers", x.count(0), 1);
        x.week();
        CHECK.due("keep(0) again", x.keep(0), 1);
        x.paper(3, 3);
        x.paper(3, 3);
        CHECK.due("goBack(0)", x.goBack(0), 1);
        CHECK.due("the later snapshot", x.count(1), 2);
        x.week();
        CHECK.due("the snapshot stays", x.goBack(0), 1);
        CHECK.due("weeks", x.count(1), 2);
        x.undo();
        CHECK.due("weeks", x.count(1), 3);
        TokenReviews y = new TokenReviews();
        y.keep(0);
        y.paper(0, 1);
        y.undo();
        CHECK.due("undo leaves the slots", y.goBack(0), 0);
        y.undo();
        y.paper(0, 1);
        CHECK.due("keep", y.keep(0), 1);
        y.undo();
        CHECK.due("a snapshot from after an undone call", y.goBack(0), 1);
    }

    private static void undoing() {
        TokenReviews x = new TokenReviews();
        long[] digests = new long[10];
        for (int i = 0; i < 10; i++) {
            digests[i] = x.count(0) * 1000 + x.count(1);
            if (i % 2 == 0) {
                x.week();
            } else {
                x.paper(0, 1);
            }
            CHECK.due("saved", x.count(11), Math.min(6, i + 1));
        }
        for (int i = 9; i >= 4; i--) {
            CHECK.due("undo", x.undo(), i - 4);
            CHECK.due("state", x.count(0) * 1000 + x.count(1), digests[i]);
        }
        CHECK.state("a seventh undo", x, x::undo);
        x.week();
        Check.type(x, "w;");
        CHECK.due("undo", x.undo(), 0);
        CHECK.due("undo leaves the buffer", x.clearBuffer(), 2);
        TokenReviews y = new TokenReviews();
        for (int i = 0; i < 5; i++) {
            y.week();
        }
        y.undo();
        y.undo();
        for (int i = 0; i < 5; i++) {
            y.paper(0, 1);
        }
        for (int i = 5; i > 0; i--) {
            CHECK.due("undo", y.undo(), i);
            CHECK.due("papers", y.count(0), i - 1);
        }
        CHECK.due("undo", y.undo(), 0);
        CHECK.due("weeks", y.count(1), 2);
    }

    /** Everything is another one in the slot than now, then goBack() and undo() bring all of it. */
    private static void allComesBack() {
        TokenReviews x = new TokenReviews();
        x.keep(0);
        x.week();
        x.paper(1, 1);
        x.take(1, 0);
        x.write(1, 0, 3);
        x.take(2, 0);
        x.drop(2, 0);
        x.rebut(0);
        x.set(0, 1);
        x.decide(0);
        x.discuss(0);
        x.keep(1);
        long first = x.digest();
        x.goBack(0);
        x.bring(3);
        x.set(2, 2);
        x.week();
        x.week();
        x.paper(3, 192);
        x.paper(2, 5);
        x.topics(6, 4);
        x.meet(6, 1);
        x.meet(5, 4);
        x.take(4, 1);
        x.write(4, 1, 9);
        x.take(0, 0);
        x.write(0, 0, 1);
        x.take(3, 0);
        x.write(3, 0, 8);
        x.discuss(0);
        long second = x.digest();
        CHECK.due("goBack(1)", x.goBack(1), 1);
        CHECK.due("all of the snapshot", x.digest(), first);
        CHECK.due("topic", x.paperOf(0, 0), 1);
        CHECK.due("authors", x.paperOf(0, 1), 1);
        CHECK.due("discussions", x.paperOf(0, 6), 0);
        CHECK.due("rebuttal", x.paperOf(0, 7), 1);
        CHECK.due("verdict", x.paperOf(0, 8), 1);
        CHECK.due("got", x.personOf(1, 5), 5);
        CHECK.due("got", x.personOf(7, 5), 4);
        CHECK.due("dropped", x.personOf(2, 7), 1);
        CHECK.due("undo", x.undo(), 5);
        // a sixth saved state, as the digest tells their number, too
        x.keep(0);
        CHECK.due("goBack(0)", x.goBack(0), 2);
        CHECK.due("saved", x.count(11), 6);
        CHECK.due("all of the saved state", x.digest(), second);
    }

    /** A discussion or a rebuttal that answers just 10 is done. */
    private static void doneWithoutAChange() {
        TokenReviews x = new TokenReviews();
        x.set(2, 6);
        x.week();
        x.week();
        CHECK.due("pool", x.count(2), 4);
        x.set(2, 4);
        x.week();
        CHECK.due("pool", x.count(2), 0);
        x.paper(0, 128);
        Check.type(x, "t00;t10;s00=5;s10=5;d0;r0;d0;d0");
        CHECK.due("all are done", x.run(), 8);
        CHECK.due("discussions", x.paperOf(0, 6), 3);
        CHECK.due("no credit", x.personOf(0, 5), 16);
        CHECK.due("score of 0", x.score(0, 0), 5);
    }
}
