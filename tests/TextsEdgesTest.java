/** The boundary cases of promises 14 to 20: the buffer, runs, snapshots, undo; and what "Terms" says of them. */
public final class TextsEdgesTest {
    private static final Edges EDGES = new Edges("TextsEdgesTest");
    private static final String WEEKS = "w;w;w;w;w;w;w;w;w;w;w;w;w;w;w;w;w;w;w;w;w;w;w;w;w;w;w;w;w;";

    public static void main(String[] args) {
        append();
        fullBuffer();
        clearBuffer();
        wordsOfAWeek();
        digitsOfPersonsAndPapers();
        firstError();
        firstErrorOfAny();
        runThrows();
        runAll();
        runStops();
        runOfUnknownPapers();
        runIsOneCall();
        keep();
        goBack();
        twoSlots();
        undo();
        sixStates();
        undoableCalls();
        callsThatSaveNothing();
        whatIsCountedComesBack();
        EDGES.end();
    }

    private static TokenReviews after(String orders) {
        return Edges.after(orders);
    }

    private static TokenReviews typed(String text) {
        return Edges.typed(new TokenReviews(), text);
    }

    private static void append() {
        EDGES.sentence("14: code: the character code, 33 to 126, otherwise IllegalArgumentException");
        for (int code = 33; code <= 126; code++) {
            TokenReviews x = new TokenReviews();
            EDGES.due("append(" + code + ")", x.append(code), 1);
        }
        for (int bad : new int[] {32, 127, 0, 10, -1, 128, 255, 'w' + 256, 'w' + 65536, Integer.MIN_VALUE, Integer.MAX_VALUE}) {
            EDGES.argument(TokenReviews::new, "append(" + bad + ")", x -> x.append(bad));
            EDGES.argument(() -> typed("w;"), "append(" + bad + ") behind others", x -> x.append(bad));
        }
        EDGES.sentence("14: Returns the new length of the buffer");
        TokenReviews x = new TokenReviews();
        for (int length = 1; length <= 60; length++) {
            EDGES.due("append", x.append(126), length);
        }
        EDGES.plain(() -> after("p00"), "append('w')", y -> y.append('w'), 1, "firstError() 0>1", "the buffer 0>1");
    }

    private static void fullBuffer() {
        EDGES.sentence("Terms: The buffer has at most 60 characters. 14: IllegalStateException if the buffer has 60");
        Edges.World full = () -> typed(WEEKS + "w;");
        EDGES.due("the sixtieth", typed(WEEKS + "w").append(';'), 60);
        EDGES.state(full, "a 61st", x -> x.append('w'));
        EDGES.state(full, "a 61st", x -> x.append(33));
        EDGES.state(full, "a 61st", x -> x.append(126));
        EDGES.sentence("14: IllegalArgumentException is named ahead of IllegalStateException");
        EDGES.argument(full, "a 61st, 32", x -> x.append(32));
        EDGES.argument(full, "a 61st, 127", x -> x.append(127));
        EDGES.argument(full, "a 61st, -1", x -> x.append(-1));
        EDGES.sentence("a full buffer that was cleared takes 60 again");
        TokenReviews x = full.make();
        x.clearBuffer();
        for (int length = 1; length <= 60; length++) {
            EDGES.due("append", x.append('!'), length);
        }
        EDGES.sentence("a full buffer can be a week as a text, and is run to its last character");
        x = Edges.typed(after("p00 c20 w t10"), WEEKS + "d0");
        EDGES.due("firstError", x.firstError(), 60);
        EDGES.due("run", x.run(), 29);
        EDGES.due("the last order is refused", x.count(9), 2);
    }

    private static void clearBuffer() {
        EDGES.sentence("15: Clears the buffer. Returns the length that it had");
        EDGES.plain(TokenReviews::new, "clearBuffer() of none", TokenReviews::clearBuffer, 0);
        for (int length : new int[] {1, 2, 59, 60}) {
            TokenReviews x = typed((WEEKS + "w;").substring(0, length));
            EDGES.due("clearBuffer()", x.clearBuffer(), length);
            EDGES.due("once more", x.clearBuffer(), 0);
            EDGES.due("the first error then", x.firstError(), 0);
            EDGES.due("nothing of it is left", x.append('w'), 1);
            EDGES.due("run", x.run(), 1);
        }
        EDGES.plain(() -> Edges.typed(after("p00 k0"), "w;x"), "clearBuffer() of three", TokenReviews::clearBuffer, 3,
                "firstError() 3>0", "the buffer 3>0");
    }

    private static void whole(String text) {
        EDGES.due("firstError of " + text, typed(text).firstError(), text.length());
        TokenReviews x = typed(text);
        EDGES.due("orders done of " + text, x.run() >= 0 ? 1 : 0, 1);
        EDGES.due("buffer behind " + text, x.clearBuffer(), 0);
    }

    /** A beginning of a week's text that is not yet one. */
    private static void beginning(String text) {
        EDGES.due("firstError of " + text, typed(text).firstError(), text.length());
        EDGES.argument(() -> typed(text), "run of " + text, TokenReviews::run);
    }

    private static void wrongAt(int index, String text) {
        EDGES.due("firstError of " + text, typed(text).firstError(), index);
        EDGES.argument(() -> typed(text), "run of " + text, TokenReviews::run);
    }

    private static void wordsOfAWeek() {
        EDGES.sentence("Terms: A week as a text is one or more orders with \";\" between them");
        wrongAt(0, "");
        whole("w");
        whole("w;w");
        whole("w;t00;s00=0;x00;d0;r0");
        beginning("w;");
        beginning("t00;");
        beginning("s00=0;");
        beginning("x00;w;");
        beginning("d0;");
        beginning("r0;");
        wrongAt(0, ";");
        wrongAt(0, ";w");
        wrongAt(2, "w;;w");
        wrongAt(1, "ww");
        wrongAt(1, "w,w");
        wrongAt(3, "t00t00");
        wrongAt(5, "s00=0w");
        wrongAt(3, "x00x");
        wrongAt(2, "d0d0");
        wrongAt(2, "r0r");
        EDGES.sentence("Terms: \"t\", \"x\" and two digits; \"s\", two such digits, \"=\", and a score, a digit; \"d\" or "
                + "\"r\" and the digit of a paper; or \"w\"");
        for (String text : new String[] {"t", "t0", "s", "s0", "s00", "s00=", "x", "x0", "d", "r"}) {
            beginning(text);
            beginning("w;" + text);
            wrongAt(text.length(), text + ";");
            wrongAt(text.length() + 2, "w;" + text + "!");
        }
        wrongAt(3, "t000");
        wrongAt(3, "t00=0");
        wrongAt(3, "s000");
        wrongAt(4, "s00==");
        wrongAt(5, "s00=00");
        wrongAt(5, "s00=10");
        wrongAt(2, "d00");
        wrongAt(2, "r00");
        wrongAt(1, "w0");
        for (String text : new String[] {"T00", "S00=0", "X00", "D0", "R0", "W", "0", "=", "!", "~", "p00"}) {
            wrongAt(0, text);
            wrongAt(2, "w;" + text);
        }
    }

    private static void digitsOfPersonsAndPapers() {
        EDGES.sentence("Terms: the digit of a person, 0 to 7, and of a paper, 0 to 7");
        String[] twos = {"t", "x", "s"};
        for (String letter : twos) {
            String end = letter.equals("s") ? "=5" : "";
            whole(letter + "00" + end);
            whole(letter + "77" + end);
            for (char bad : new char[] {'/', '8', '9', ':', 'a'}) {
                wrongAt(1, letter + bad + "0" + end);
                wrongAt(2, letter + "0" + bad + end);
            }
        }
        for (String letter : new String[] {"d", "r"}) {
            whole(letter + "0");
            whole(letter + "7");
            for (char bad : new char[] {'/', '8', '9', ':', 'a'}) {
                wrongAt(1, letter + bad);
            }
        }
        EDGES.sentence("Terms: a score, a digit");
        for (char digit = '0'; digit <= '9'; digit++) {
            whole("s00=" + digit);
        }
        for (char bad : new char[] {'/', ':', '-', '=', ';'}) {
            wrongAt(4, "s00=" + bad);
        }
    }

    private static void firstError() {
        EDGES.sentence("16: Returns the index of the first character that is a syntax error; the length of the buffer if "
                + "there is none");
        EDGES.plain(TokenReviews::new, "firstError() of an empty buffer", TokenReviews::firstError, 0);
        EDGES.plain(() -> typed("w;t"), "firstError() of a beginning", TokenReviews::firstError, 3);
        EDGES.plain(() -> typed("w;tt"), "firstError() of a wrong one", TokenReviews::firstError, 3);
        EDGES.due("the first of two", typed("w;q;q").firstError(), 2);
        EDGES.due("behind an error all else is not looked at", typed("q;w;w").firstError(), 0);
        EDGES.due("the last of 60", typed(WEEKS + "w,").firstError(), 59);
        EDGES.due("none of 60", typed(WEEKS + "w;").firstError(), 60);
        EDGES.due("none of 60, a week as a text", typed(WEEKS + "d7").firstError(), 60);
        EDGES.sentence("Terms: a syntax error if no week as a text, of any length, begins with the characters before it "
                + "and this character");
        EDGES.due("an order that has no room in the buffer any more", typed(WEEKS + "w;").firstError(), 60);
        EDGES.due("a score that has none", typed(WEEKS.substring(4) + "r0;s00").firstError(), 60);
        EDGES.due("an order that would be refused", typed("t77;d7").firstError(), 6);
    }

    private static void firstErrorOfAny() {
        EDGES.sentence("Terms: each character behind each beginning");
        String[][] places = {{"", "tsxdrw"}, {"t", "01234567"}, {"t7", "01234567"}, {"t77", ";"},
            {"s", "01234567"}, {"s7", "01234567"}, {"s77", "="}, {"s77=", "0123456789"}, {"s77=9", ";"},
            {"x", "01234567"}, {"x7", "01234567"}, {"x77", ";"}, {"d", "01234567"}, {"d7", ";"},
            {"r", "01234567"}, {"r7", ";"}, {"w", ";"}, {"w;", "tsxdrw"}, {"t00;", "tsxdrw"}, {"s00=0;", "tsxdrw"}};
        for (String[] place : places) {
            for (char c = 33; c <= 126; c++) {
                int due = place[0].length() + (place[1].indexOf(c) >= 0 ? 1 : 0);
                EDGES.due("firstError of " + place[0] + c, typed(place[0] + c).firstError(), due);
            }
        }
    }

    private static void runThrows() {
        EDGES.sentence("17: IllegalArgumentException if the buffer does not tell a week as a text");
        Edges.World w = () -> after("c29 w p07 t00");
        EDGES.argument(w, "an empty buffer", TokenReviews::run);
        for (String text : new String[] {"w;", "w;w;t0", "t10;q", "w w".replace(' ', '_'), ";", "w;;w", "s00=5;", "d9"}) {
            EDGES.argument(() -> Edges.typed(w.make(), text), "run of " + text, TokenReviews::run);
        }
        EDGES.sentence("the orders ahead of a syntax error are not done, and the buffer stays");
        TokenReviews x = Edges.typed(w.make(), "w;s00=5;w;");
        try {
            x.run();
        } catch (IllegalArgumentException e) {
            EDGES.due("weeks", x.count(1), 1);
            EDGES.due("score", x.score(0, 0), 10);
            EDGES.due("buffer", x.append('w'), 11);
        }
        EDGES.due("what is mended is run", x.run(), 4);
        EDGES.due("score", x.score(0, 0), 5);
    }

    private static void runAll() {
        EDGES.sentence("17: Does the orders in the buffer as take(), write(), drop(), discuss(), rebut() and week() do, "
                + "one after the other, and clears the buffer. Returns how many are done");
        same("w", 1, "w");
        same("t30", 1, "t30");
        same("s00=0", 1, "s00=0");
        same("s00=9", 1, "s00=9");
        same("s10=9", 1, "s10=9");
        same("x00", 1, "x00");
        same("d0", 1, "d0");
        same("r0", 1, "r0");
        same("t71;s71=4;t41;s41=8;d1;r1;x00;w", 8, "t71 s71=4 t41 s41=8 d1 r1 x00 w");
        same("x00;t00;x00;t00;s00=1;s00=2;d0;d0;r0;w;w", 11, "x00 t00 x00 t00 s00=1 s00=2 d0 d0 r0 w w");
        EDGES.sentence("17: a discussion or a rebuttal that answers just 10 is not refused");
        TokenReviews x = Edges.typed(after("c25 p07 w w w w c30 t00 s00=5 t10 s10=5"), "d0;r0;d0;d0;w");
        EDGES.due("pool", x.count(2), 0);
        EDGES.due("run", x.run(), 5);
        EDGES.due("discussions", x.paperOf(0, 6), 3);
        EDGES.due("rebuttal", x.paperOf(0, 7), 1);
        EDGES.due("refused", x.count(9), 0);
        EDGES.sentence("17: as many orders as the buffer has room for");
        x = Edges.typed(after("c20"), WEEKS + "w");
        EDGES.due("thirty weeks", x.run(), 30);
        EDGES.due("weeks", x.count(1), 30);
    }

    /** The run ends as the calls one by one do; but for the saved states, so the settings are done six times ahead. */
    private static void same(String text, int done, String orders) {
        String start = "c29 c04 w p06 p05 t00 t10 s10=2 t20 s20=8 c31 c31 c31 c31 c31 c31";
        TokenReviews x = Edges.typed(after(start), text);
        EDGES.due("run of " + text, x.run(), done);
        EDGES.due("all as the calls of " + text + " do", x.digest(), after(start + " " + orders).digest());
    }

    private static void stops(String text, String orders, int done, int refused) {
        String start = "c29 w p06 p06 t00 t10 s10=2 c01 t01 s01=6 D1 c03 " + orders;
        TokenReviews x = Edges.typed(after(start), text + ";w");
        int before = x.count(9);
        EDGES.due("run of " + text, x.run(), done);
        EDGES.due("refused in " + text, x.count(9), before + refused);
        EDGES.due("nothing is done behind the one that stops " + text, x.count(1), after(start).count(1) + done);
        EDGES.due("the buffer behind " + text, x.clearBuffer(), 0);
        EDGES.due("one saved state", x.undo(), 5);
        EDGES.due("refused when it is undone", x.count(9), before);
    }

    private static void runStops() {
        EDGES.sentence("17: up to the first one that is refused (and counted so)");
        String[] refused = {"t31", "t00", "t10", "t60", "d1", "d0", "r1", "t01"};
        for (String order : refused) {
            stops(order, "", 0, 1);
            stops("w;w;" + order, "", 2, 1);
            stops("w;" + order + ";" + order, "", 1, 1);
        }
        stops("t40", "t20 t30", 0, 1);
        stops("t30", "c01", 0, 1);
        stops("t30", "o3e", 0, 1);
        stops("t30", "m36", 0, 1);
        stops("r0", "r0", 0, 1);
        stops("d0", "s00=1 d0 d0 d0 d0 d0 d0 d0", 0, 1);
        EDGES.sentence("17: or whose method would throw an exception (which is not counted as refused)");
        String[] thrown = {"s30=5", "s01=5", "s31=5", "x30", "x10", "x01", "x31"};
        for (String order : thrown) {
            stops(order, "", 0, 0);
            stops("w;w;" + order, "", 2, 0);
        }
    }

    private static void runOfUnknownPapers() {
        EDGES.sentence("17: also if there is no such paper: the first that there is not, the last that there is");
        for (String order : new String[] {"t02", "s02=5", "x02", "d2", "r2", "t07", "s07=5", "x07", "d7", "r7"}) {
            stops(order, "", 0, 0);
            stops("w;" + order, "", 1, 0);
        }
        for (String order : new String[] {"t00", "s00=5", "x00", "d0", "r0"}) {
            TokenReviews x = Edges.typed(after("w"), order);
            EDGES.due("no papers, run of " + order, x.run(), 0);
            EDGES.due("refused", x.count(9), 0);
        }
        String eight = "c29 c04 w p06 p06 p06 p06 p06 p06 p06 p06 t17 s17=5 t27 s27=9 t37 ";
        TokenReviews x = Edges.typed(after(eight), "t07;s07=0;x37;d7;r7");
        EDGES.due("the eighth paper", x.run(), 5);
        x = Edges.typed(after("c29 w p01 t70"), "s70=9;t00;x00");
        EDGES.due("the last person, and the first", x.run(), 3);
        EDGES.due("score", x.score(7, 0), 9);
    }

    private static void runIsOneCall() {
        EDGES.sentence("17: Undoable, as one call, also if none is done");
        TokenReviews x = Edges.typed(after("p07"), "w;t00;s00=5;t10;w;w;w;w;w");
        long before = after("p07").digest();
        EDGES.due("run", x.run(), 9);
        EDGES.due("saved states", x.count(11), 2);
        EDGES.due("undo", x.undo(), 1);
        EDGES.due("all as before", x.digest(), before);
        for (String text : new String[] {"t77", "s00=1", "t00"}) {
            x = Edges.typed(after("p07"), text);
            EDGES.due("run of " + text, x.run(), 0);
            EDGES.due("saved states", x.count(11), 2);
            EDGES.due("undo", x.undo(), 1);
            EDGES.due("all as before, the buffer is clear", x.digest(), before);
        }
    }

    private static void keep() {
        EDGES.sentence("18: Takes a snapshot, in place of the one in the slot. Returns how many papers there are");
        EDGES.due("keep of none", new TokenReviews().keep(0), 0);
        EDGES.due("keep of one", after("p00").keep(1), 1);
        EDGES.due("keep of eight", after("p00 p00 p00 p00 p00 p00 p00 p00").keep(0), 8);
        TokenReviews x = after("c21 w k0 p00 w k0 p00 w b0");
        EDGES.due("the later one", x.count(1), 2);
        EDGES.due("its papers", x.count(0), 1);
        EDGES.sentence("18: keep() is not undoable, and changes nothing but the slot");
        EDGES.plain(() -> after("p00 w"), "keep(0)", y -> y.keep(0), 1);
        EDGES.plain(() -> after("p00 w k1 w"), "keep(1)", y -> y.keep(1), 1);
        EDGES.sentence("18: slot: 0 or 1, otherwise IllegalArgumentException");
        for (int bad : new int[] {-1, 2, 3, Integer.MIN_VALUE, Integer.MAX_VALUE}) {
            EDGES.argument(() -> after("p00"), "keep(" + bad + ")", y -> y.keep(bad));
            EDGES.argument(() -> after("p00 k0 k1"), "keep(" + bad + ") with both full", y -> y.keep(bad));
        }
    }

    private static void goBack() {
        EDGES.sentence("19: Goes back to a snapshot. Undoable. Returns how many papers there are then");
        EDGES.undoable(() -> after("p06 k0 p05"), "goBack(0)", x -> x.goBack(0), 1, "count(0) 2>1",
                "personOf(5, 8) 2>0", "paperOf(1, 0) 0>", "paperOf(1, 1) 32>", "paperOf(1, 2) 0>", "paperOf(1, 3) 0>",
                "paperOf(1, 4) 0>", "paperOf(1, 5) 0>", "paperOf(1, 6) 0>", "paperOf(1, 7) 0>", "paperOf(1, 8) 0>",
                "paperOf(1, 9) 0>", "score(0, 1) -1>", "score(1, 1) -1>", "score(2, 1) -1>", "score(3, 1) -1>",
                "score(4, 1) -1>", "score(5, 1) -1>", "score(6, 1) -1>", "score(7, 1) -1>", "whyNot(0, 1) 6>",
                "whyNot(1, 1) 6>", "whyNot(2, 1) 6>", "whyNot(3, 1) 6>", "whyNot(4, 1) 6>", "whyNot(5, 1) 4>",
                "whyNot(6, 1) 6>", "whyNot(7, 1) 6>", "bestReviewer(1) -1>", "roundsToAgree(1) 0>", "meanScore(1) -1.0>");
        EDGES.undoable(() -> after("p06 w k1"), "goBack(1) that changes nothing", x -> x.goBack(1), 1);
        EDGES.due("back to none", after("k0 p00 p00").goBack(0), 0);
        EDGES.due("forth to eight", after("p00 p00 p00 p00 p00 p00 p00 p00 k1 u u").goBack(1), 8);
        EDGES.sentence("19: which stays");
        TokenReviews x = after("p00 k0");
        for (int times = 0; times < 8; times++) {
            x.paper(1, 2);
            x.week();
            EDGES.due("goBack(0)", x.goBack(0), 1);
            EDGES.due("weeks", x.count(1), 0);
        }
        EDGES.sentence("19: slot: 0 or 1, otherwise IllegalArgumentException, ahead of IllegalStateException");
        for (int bad : new int[] {-1, 2, 3, Integer.MIN_VALUE, Integer.MAX_VALUE}) {
            EDGES.argument(TokenReviews::new, "goBack(" + bad + ")", y -> y.goBack(bad));
            EDGES.argument(() -> after("p00 k0 k1"), "goBack(" + bad + ") with both full", y -> y.goBack(bad));
        }
        EDGES.sentence("19: IllegalStateException if there is no snapshot in it");
        EDGES.state(() -> after("p00 k1"), "goBack(0)", y -> y.goBack(0));
        EDGES.state(() -> after("p00 k0"), "goBack(1)", y -> y.goBack(1));
        EDGES.state(() -> after("p00 k0 u"), "goBack(1), the other one is kept", y -> y.goBack(1));
    }

    private static void twoSlots() {
        EDGES.sentence("Terms: There are two slots; a snapshot is all but the buffer, the slots and the saved states");
        TokenReviews x = after("k0 p00 k1 p00");
        EDGES.due("slot 0", x.goBack(0), 0);
        EDGES.due("slot 1", x.goBack(1), 1);
        EDGES.due("slot 0 again", x.goBack(0), 0);
        EDGES.due("the saved states are none of it", x.count(11), 5);
        x = Edges.typed(after("w"), "w;w");
        x.keep(0);
        x.clearBuffer();
        Edges.typed(x, "w;t0");
        x.goBack(0);
        EDGES.due("the buffer is none of it", x.clearBuffer(), 4);
        x = after("k0 p00 k1 b0");
        EDGES.due("the slots are none of it", x.goBack(1), 1);
        allOfASnapshot();
    }

    private static void allOfASnapshot() {
        EDGES.sentence("Terms: all: each call by itself changes what goBack() and undo() bring back");
        String start = "c29 w c29 c29 c29 c29 p06 p25 t00 t10 s10=2 t20 s20=9 k0 ";
        String[] changes = {"p30", "o01", "m01", "c01", "c12", "c20", "c33", "w", "t30", "t60", "s10=3", "s00=3", "x00",
            "d0", "d1", "r0", "r1", "x00 c02 D0", "x00 c01 s10=9 D0"};
        for (String change : changes) {
            TokenReviews x = after(start + change);
            long changed = x.digest();
            EDGES.due("another digest after " + change, changed == after(start).digest() ? 1 : 0, 0);
            x.goBack(0);
            EDGES.due("goBack() after " + change, x.digest(), after(start).digest());
            x.undo();
            x.set(2, x.setting(2));
            EDGES.due("undo() of it", x.digest(), changed);
        }
        TokenReviews x = after(start);
        x.bring(9);
        x.goBack(0);
        EDGES.due("goBack() after bring(9)", x.digest(), after(start).digest());
        x = after("k0 p31 k1 b0 p16 w t00 t20 s00=1 s20=9 d0 r0 b1");
        EDGES.due("topic of the other paper 0", x.paperOf(0, 0), 3);
        EDGES.due("authors", x.paperOf(0, 1), 2);
        EDGES.due("discussions", x.paperOf(0, 6), 0);
        EDGES.due("rebuttal", x.paperOf(0, 7), 0);
        x.undo();
        EDGES.due("topic of paper 0", x.paperOf(0, 0), 1);
        EDGES.due("authors", x.paperOf(0, 1), 64);
        EDGES.due("discussions", x.paperOf(0, 6), 1);
        EDGES.due("rebuttal", x.paperOf(0, 7), 1);
    }

    private static void undo() {
        EDGES.sentence("20: Restores the latest saved state, and drops it. Returns how many saved states are left");
        for (int saved = 1; saved <= 6; saved++) {
            TokenReviews x = new TokenReviews();
            for (int papers = 0; papers < saved; papers++) {
                x.paper(0, 1);
            }
            for (int left = saved - 1; left >= 0; left--) {
                EDGES.due("undo", x.undo(), left);
                EDGES.due("papers", x.count(0), left);
                EDGES.due("count(11)", x.count(11), left);
            }
        }
        EDGES.sentence("20: IllegalStateException if there is none");
        EDGES.state(TokenReviews::new, "a new object", TokenReviews::undo);
        EDGES.state(() -> after("p00 u"), "one and one undo", TokenReviews::undo);
        EDGES.state(() -> after("p00 p00 p00 p00 p00 p00 u u u u u u"), "six and six undos", TokenReviews::undo);
        EDGES.state(() -> after("p00 p00 p00 p00 p00 p00 p00 u u u u u u"), "seven and six undos", TokenReviews::undo);
        EDGES.state(() -> after("k0 k1"), "snapshots are no saved states", TokenReviews::undo);
        EDGES.sentence("20: a call behind an undo() saves the state then");
        TokenReviews x = after("p00 p00 p00 u u");
        x.week();
        EDGES.due("undo", x.undo(), 1);
        EDGES.due("papers", x.count(0), 1);
        EDGES.due("undo", x.undo(), 0);
        EDGES.due("papers", x.count(0), 0);
        EDGES.sentence("20: undo() leaves the buffer and the slots");
        x = Edges.typed(after("p00 k0 p00 k1"), "w;");
        x.undo();
        EDGES.due("the buffer", x.clearBuffer(), 2);
        EDGES.due("slot 1 has a snapshot from behind it", x.goBack(1), 2);
        EDGES.due("slot 0", x.goBack(0), 1);
    }

    private static void sixStates() {
        EDGES.sentence("Terms: At most 6 states are saved; the oldest one is dropped first");
        for (int calls = 0; calls <= 20; calls++) {
            TokenReviews x = after("c20");
            x.undo();
            for (int weeks = 0; weeks < calls; weeks++) {
                x.week();
            }
            EDGES.due("count(11) after " + calls, x.count(11), Math.min(6, calls));
            for (int back = 1; back <= Math.min(6, calls); back++) {
                x.undo();
                EDGES.due("weeks after " + calls + " and " + back + " undos", x.count(1), calls - back);
            }
            int left = calls;
            EDGES.state(() -> {
                TokenReviews y = new TokenReviews();
                for (int weeks = 0; weeks < left; weeks++) {
                    y.week();
                }
                for (int back = 0; back < Math.min(6, left); back++) {
                    y.undo();
                }
                return y;
            }, "one more undo after " + calls, TokenReviews::undo);
        }
        EDGES.sentence("Terms: also when some were undone in between");
        TokenReviews x = after("p00 p00 p00 p00 u u");
        for (int weeks = 1; weeks <= 4; weeks++) {
            x.week();
            EDGES.due("count(11)", x.count(11), 2 + weeks);
        }
        x.week();
        EDGES.due("count(11), full", x.count(11), 6);
        for (int weeks = 4; weeks >= 0; weeks--) {
            EDGES.due("undo", x.undo(), weeks + 1);
            EDGES.due("weeks", x.count(1), weeks);
        }
        EDGES.due("undo", x.undo(), 0);
        EDGES.due("papers", x.count(0), 1);
    }

    private static void undoableCalls() {
        EDGES.sentence("Terms: Each method that is marked \"undoable\" and does not throw an exception saves the state from "
                + "before it (also if it changes nothing, or is refused)");
        Edges.World w = () -> after("w p07 t00 s00=5 k0");
        EDGES.due("paper", saved(w, x -> x.paper(0, 1)), 5);
        EDGES.due("topics", saved(w, x -> x.topics(0, 15)), 5);
        EDGES.due("meet", saved(w, x -> x.meet(0, 1)), 5);
        EDGES.due("set", saved(w, x -> x.set(1, 1)), 5);
        EDGES.due("bring", saved(w, x -> x.bring(1)), 5);
        EDGES.due("week", saved(w, TokenReviews::week), 5);
        EDGES.due("take", saved(w, x -> x.take(1, 0)), 5);
        EDGES.due("take, refused", saved(w, x -> x.take(7, 0)), 5);
        EDGES.due("write", saved(w, x -> x.write(0, 0, 5)), 5);
        EDGES.due("drop", saved(() -> after("w p07 t10 t00"), x -> x.drop(0, 0)), 5);
        EDGES.due("discuss", saved(() -> after("c01 p07 w w"), x -> x.discuss(0)), 5);
        EDGES.due("rebut", saved(w, x -> x.rebut(0)), 5);
        EDGES.due("rebut, refused", saved(() -> after("c01 p07 w w"), x -> x.rebut(0)), 5);
        EDGES.due("decide", saved(() -> after("p07 w c01 t00 s00=5 u s00=5 u s00=6 u s00=1"), x -> x.decide(0)), 6);
        EDGES.due("run", saved(() -> Edges.typed(w.make(), "w"), TokenReviews::run), 5);
        EDGES.due("goBack", saved(w, x -> x.goBack(0)), 5);
    }

    private static long saved(Edges.World world, Edges.Call call) {
        TokenReviews x = world.make();
        call.of(x);
        return x.count(11);
    }

    private static void callsThatSaveNothing() {
        EDGES.sentence("the others save no state, and looks change nothing");
        Edges.World w = () -> Edges.typed(after("w p07 t00 s00=5 t10 k0"), "w;q");
        EDGES.plain(w, "append", x -> x.append('w'), 4, "the buffer 3>4");
        EDGES.plain(w, "keep", x -> x.keep(0), 1);
        EDGES.plain(w, "personOf", x -> x.personOf(0, 0), 2);
        EDGES.plain(w, "paperOf", x -> x.paperOf(0, 1), 128);
        EDGES.plain(w, "score", x -> x.score(0, 0), 5);
        EDGES.plain(w, "count", x -> x.count(3), 4);
        EDGES.plain(w, "setting", x -> x.setting(2), 4);
        EDGES.plain(w, "whyNot", x -> x.whyNot(7, 0), 4);
        EDGES.plain(w, "whyNot", x -> x.whyNot(2, 0), 0);
        EDGES.plain(w, "bestReviewer", x -> x.bestReviewer(0), 2);
        EDGES.plain(w, "most(0)", x -> x.most(0), 1);
        EDGES.plain(w, "most(1)", x -> x.most(1), 1);
        EDGES.plain(w, "needed", TokenReviews::needed, 0);
        EDGES.plain(() -> after("w p07 t00 s00=1 t10 s10=9"), "roundsToAgree", x -> x.roundsToAgree(0), 4);
        EDGES.plain(w, "meanScore", x -> (long) x.meanScore(0), 5);
        EDGES.plain(w, "spentShare", x -> (long) (x.spentShare() * 100.0f), 4);
        EDGES.plain(w, "digest", x -> x.digest() == x.digest() ? 1 : 0, 1);
    }

    private static void whatIsCountedComesBack() {
        EDGES.sentence("Terms: all, also what is counted so far");
        TokenReviews x = after("c29 w p07 t00 t10 s10=3 x00 d0 r0");
        x.keep(0);
        long kept = x.digest();
        int saved = x.count(11);
        EDGES.due("saved states", saved, 6);
        Edges.more(x, "w t20 x20 d0 t70 c01 D0 w");
        x.bring(5);
        EDGES.due("weeks", x.count(1), 3);
        EDGES.due("what came", x.count(5), 105);
        EDGES.due("refused", x.count(9), 3);
        EDGES.due("goBack(0)", x.goBack(0), 1);
        EDGES.due("weeks", x.count(1), 1);
        EDGES.due("what came", x.count(5), 100);
        EDGES.due("refused", x.count(9), 1);
        EDGES.due("dropped by 2", x.personOf(2, 7), 0);
        EDGES.due("got by 0", x.personOf(0, 5), 9);
        EDGES.due("all", x.digest(), kept);
        EDGES.due("undo", x.undo(), 5);
        EDGES.due("weeks", x.count(1), 3);
        EDGES.due("what came", x.count(5), 105);
        EDGES.due("refused", x.count(9), 3);
        EDGES.due("dropped by 2", x.personOf(2, 7), 1);
        EDGES.due("decided", x.count(8), 1);
    }
}
