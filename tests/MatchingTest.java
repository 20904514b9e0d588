import java.util.Random;

/** Promises 28 and 29 on worlds where few persons fit few papers, by fixed seeds, compared with NaiveReviews. */
public final class MatchingTest {
    private static final Check CHECK = new Check("MatchingTest");

    public static void main(String[] args) {
        int worlds = args.length > 0 ? Integer.parseInt(args[0]) : 15000;
        for (int seed = 0; seed < worlds; seed++) {
            compare(new Random(seed), "world " + seed);
        }
        longWay();
        CHECK.end();
    }

    private static void compare(Random random, String name) {
        TokenReviews x = new TokenReviews();
        NaiveReviews naive = new NaiveReviews();
        both(x, naive, "set", 0, 1 + random.nextInt(4));
        both(x, naive, "set", 1, 0);
        both(x, naive, "set", 2, 1 + random.nextInt(5));
        both(x, naive, "week", 0, 0);
        if (random.nextBoolean()) {
            both(x, naive, "week", 0, 0);
        }
        for (int person = 0; person < 8; person++) {
            both(x, naive, "topics", person, random.nextInt(16) & (random.nextBoolean() ? 15 : random.nextInt(16)));
        }
        int dense = random.nextInt(3);
        int papers = 1 + random.nextInt(8);
        for (int paper = 0; paper < papers; paper++) {
            int authors = dense == 0 ? 1 << random.nextInt(8) : random.nextInt(256) | (dense == 1 ? random.nextInt(256) : 0);
            both(x, naive, "paper", random.nextInt(4), Math.max(1, authors));
        }
        for (int i = random.nextInt(8); i > 0; i--) {
            both(x, naive, "take", random.nextInt(8), random.nextInt(papers));
        }
        long most = (Long) naive.call("most", 0, 0, 0);
        CHECK.due(name + ": most(0)", x.most(0), most);
        CHECK.due(name + ": most(1)", x.most(1), most);
        CHECK.due(name + ": needed()", x.needed(), (Long) naive.call("needed", 0, 0, 0));
    }

    private static void both(TokenReviews x, NaiveReviews naive, String call, int a, int b) {
        naive.call(call, a, b, 0);
        switch (call) {
            case "set":
                x.set(a, b);
                break;
            case "week":
                x.week();
                break;
            case "topics":
                x.topics(a, b);
                break;
            case "paper":
                x.paper(a, b);
                break;
            default:
                x.take(a, b);
                break;
        }
    }

    /** Paper n fits persons n and n + 1, the last one person 0 alone: all others must move by one. */
    private static void longWay() {
        TokenReviews x = new TokenReviews();
        x.set(0, 1);
        x.set(1, 0);
        x.set(2, 2);
        x.week();
        for (int paper = 0; paper < 7; paper++) {
            x.paper(0, 255 ^ 3 << paper);
        }
        x.paper(0, 254);
        CHECK.due("longWay: most(0)", x.most(0), 8);
        CHECK.due("longWay: most(1)", x.most(1), 8);
        CHECK.due("longWay: needed()", x.needed(), 0);
        x.topics(7, 0);
        CHECK.due("longWay, one less: most(0)", x.most(0), 7);
        CHECK.due("longWay, one less: most(1)", x.most(1), 7);
    }
}
