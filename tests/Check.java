/** Counts the answers that are not the due ones, for one test with a main method. */
final class Check {
    private final String test;
    private int wrong = 0;
    private int looked = 0;

    Check(String test) {
        this.test = test;
    }

    void due(String call, long got, long want) {
        looked++;
        if (got != want) {
            wrong++;
            System.out.println(test + ": " + call + " answered " + got + ", due is " + want);
        }
    }

    void dueDouble(String call, double got, double want) {
        looked++;
        if (Double.compare(got, want) != 0) {
            wrong++;
            System.out.println(test + ": " + call + " answered " + got + ", due is " + want);
        }
    }

    /** The call must throw just this exception, and must change nothing. */
    void dueThrow(String call, TokenReviews x, Class<? extends Exception> due, Runnable body) {
        looked++;
        long before = x.digest();
        Class<?> got = null;
        try {
            body.run();
        } catch (RuntimeException e) {
            got = e.getClass();
        }
        if (got != due) {
            wrong++;
            System.out.println(test + ": " + call + " threw " + got + ", due is " + due);
        }
        if (x.digest() != before) {
            wrong++;
            System.out.println(test + ": " + call + " threw and changed something");
        }
    }

    void index(String call, TokenReviews x, Runnable body) {
        dueThrow(call, x, IndexOutOfBoundsException.class, body);
    }

    void argument(String call, TokenReviews x, Runnable body) {
        dueThrow(call, x, IllegalArgumentException.class, body);
    }

    void state(String call, TokenReviews x, Runnable body) {
        dueThrow(call, x, IllegalStateException.class, body);
    }

    void end() {
        System.out.println(test + ": " + looked + " answers, " + wrong + " not as due");
        if (wrong != 0) {
            System.exit(1);
        }
    }

    static void type(TokenReviews x, String text) {
        x.clearBuffer();
        for (int i = 0; i < text.length(); i++) {
            x.append(text.charAt(i));
        }
    }
}
