import java.util.ArrayDeque;
import java.util.Random;

/** Runs of calls by fixed seeds, compared call by call with NaiveReviews. */
public final class RandomRunsTest {
    private static final String[] NAMES = {"paper", "topics", "meet", "set", "bring", "week", "take", "write", "drop",
        "discuss", "rebut", "decide", "append", "clearBuffer", "firstError", "run", "keep", "goBack", "undo",
        "personOf", "paperOf", "score", "count", "setting", "whyNot", "bestReviewer", "most", "needed",
        "roundsToAgree", "meanScore", "spentShare", "digest"};
    private static final int[] OFTEN = {6, 4, 4, 5, 2, 5, 30, 30, 5,
        10, 4, 8, 20, 1, 2, 4, 2, 2, 4,
        4, 4, 2, 4, 1, 4, 4, 3, 1,
        2, 2, 2, 3};

    private static int answers = 0;

    public static void main(String[] args) {
        int runs = args.length > 0 ? Integer.parseInt(args[0]) : 400;
        for (int seed = 0; seed < runs; seed++) {
            if (!same(new Random(seed), seed)) {
                System.exit(1);
            }
        }
        System.out.println("RandomRunsTest: " + answers + " answers, 0 not as due");
    }

    private static boolean same(Random random, int seed) {
        TokenReviews x = new TokenReviews();
        NaiveReviews naive = new NaiveReviews();
        ArrayDeque<Character> typing = new ArrayDeque<>();
        int good = 50 + random.nextInt(51);
        for (int number = 0; number < 512; number++) {
            String name = typing.isEmpty() ? pick(random) : "append";
            int a = argument(random, name, 0, good);
            int b = argument(random, name, 1, good);
            int c = argument(random, name, 2, good);
            if (!typing.isEmpty()) {
                a = typing.poll();
            } else if (name.equals("append") && random.nextInt(100) < 90) {
                name = "clearBuffer";
                typeWeek(random, typing);
            }
            if (!one(x, naive, name, a, b, c, seed, number)) {
                return false;
            }
            if (number % 16 == 15 && !one(x, naive, "digest", 0, 0, 0, seed, number)) {
                return false;
            }
            if (name.equals("append") && typing.isEmpty() && !one(x, naive, "run", 0, 0, 0, seed, number)) {
                return false;
            }
        }
        return true;
    }

    private static boolean one(TokenReviews x, NaiveReviews naive, String name, int a, int b, int c, int seed, int number) {
        Object want = naive.call(name, a, b, c);
        Object got;
        try {
            got = call(x, name, a, b, c);
        } catch (RuntimeException e) {
            got = e.getClass().getSimpleName();
        }
        answers++;
        if (!want.equals(got)) {
            System.out.println("seed " + seed + ", call " + number + ": " + name + "(" + a + ", " + b + ", " + c
                    + ") answered " + got + ", due is " + want);
            return false;
        }
        return true;
    }

    private static String pick(Random random) {
        int all = 0;
        for (int often : OFTEN) {
            all += often;
        }
        int at = random.nextInt(all);
        int i = 0;
        while (at >= OFTEN[i]) {
            at -= OFTEN[i];
            i++;
        }
        return NAMES[i];
    }

    private static void typeWeek(Random random, ArrayDeque<Character> typing) {
        int orders = 1 + random.nextInt(8);
        StringBuilder text = new StringBuilder();
        int person = random.nextInt(8);
        int paper = random.nextInt(3);
        for (int i = 0; i < orders; i++) {
            if (random.nextInt(3) > 0) {
                person = random.nextInt(8);
                paper = random.nextInt(random.nextBoolean() ? 3 : 8);
            }
            char letter = "tttsssxdrw".charAt(random.nextInt(10));
            text.append(i == 0 ? "" : ";").append(letter);
            if (letter == 't' || letter == 's' || letter == 'x') {
                text.append(person);
            }
            text.append(letter == 'w' ? "" : "" + paper);
            text.append(letter == 's' ? "=" + random.nextInt(10) : "");
        }
        if (random.nextInt(6) == 0) {
            text.setCharAt(random.nextInt(text.length()), (char) (33 + random.nextInt(94)));
        }
        for (char c : text.toString().toCharArray()) {
            typing.add(c);
        }
    }

    private static int argument(Random random, String name, int place, int good) {
        if (random.nextInt(100) >= good && random.nextInt(6) == 0) {
            int[] odd = {-1, 8, 9, 10, 11, 12, 16, 256, 1000, Integer.MIN_VALUE, Integer.MAX_VALUE, 127, 32};
            return odd[random.nextInt(odd.length)];
        }
        switch (name) {
            case "paper":
                return place == 0 ? random.nextInt(4) : random.nextInt(3) == 0 ? random.nextInt(256) : 1 << random.nextInt(8);
            case "topics":
                return place == 0 ? random.nextInt(8) : random.nextInt(3) == 0 ? random.nextInt(16) : 15;
            case "set":
                return place == 0 ? random.nextInt(4) : random.nextInt(5);
            case "bring":
                return random.nextInt(4) == 0 ? 999 : 1 + random.nextInt(60);
            case "write":
                return place == 2 ? random.nextInt(10) : place == 1 ? random.nextInt(4) : random.nextInt(8);
            case "discuss": case "rebut": case "decide":
                return random.nextInt(4);
            case "append":
                return 33 + random.nextInt(94);
            case "keep": case "goBack": case "most":
                return random.nextInt(2);
            case "personOf":
                return random.nextInt(place == 0 ? 8 : 9);
            case "paperOf":
                return random.nextInt(place == 0 ? 8 : 10);
            case "count":
                return random.nextInt(12);
            case "setting":
                return random.nextInt(4);
            default:
                return random.nextInt(8);
        }
    }

    private static Object call(TokenReviews x, String name, int a, int b, int c) {
        switch (name) {
            case "paper": return (long) x.paper(a, b);
            case "topics": return (long) x.topics(a, b);
            case "meet": return (long) x.meet(a, b);
            case "set": return (long) x.set(a, b);
            case "bring": return (long) x.bring(a);
            case "week": return (long) x.week();
            case "take": return (long) x.take(a, b);
            case "write": return (long) x.write(a, b, c);
            case "drop": return (long) x.drop(a, b);
            case "discuss": return (long) x.discuss(a);
            case "rebut": return (long) x.rebut(a);
            case "decide": return (long) x.decide(a);
            case "append": return (long) x.append(a);
            case "clearBuffer": return (long) x.clearBuffer();
            case "firstError": return (long) x.firstError();
            case "run": return (long) x.run();
            case "keep": return (long) x.keep(a);
            case "goBack": return (long) x.goBack(a);
            case "undo": return (long) x.undo();
            case "personOf": return (long) x.personOf(a, b);
            case "paperOf": return (long) x.paperOf(a, b);
            case "score": return (long) x.score(a, b);
            case "count": return (long) x.count(a);
            case "setting": return (long) x.setting(a);
            case "whyNot": return (long) x.whyNot(a, b);
            case "bestReviewer": return (long) x.bestReviewer(a);
            case "most": return (long) x.most(a);
            case "needed": return (long) x.needed();
            case "roundsToAgree": return (long) x.roundsToAgree(a);
            case "meanScore": return x.meanScore(a);
            case "spentShare": return x.spentShare();
            default: return x.digest();
        }
    }
}
