/** Told answers against due ones, for all tests of the project. */
final class Due {
    static final int WRONG = 1;
    static final int NO_ROW = 2;
    static final int TOO_MANY = 3;
    static final int ALREADY = 4;
    static final int NOTHING = 5;
    static final int FAULTY = 9;

    private static int wrong = 0;
    private static int asked = 0;
    private static int promise = 0;
    private static String sentence = "";

    private Due() {
    }

    /** One call with one of its numbers left open. */
    interface Call {
        long ask(SumWalker x, int n);
    }

    /** The promise that the next checks belong to. */
    static void promise(int number) {
        promise = number;
        sentence = "";
    }

    /** The words of the document that the next checks belong to. */
    static void sentence(String words) {
        sentence = " (" + words + ")";
    }

    static void is(String call, long got, long want) {
        asked++;
        if (got != want) {
            tell(call + " answered " + got + ", due is " + want);
        }
    }

    /** The call answered, and left STATUS 0. */
    static void ok(SumWalker x, String call, long got, long want) {
        is(call, got, want);
        is(call + ", then status()", x.status(), 0);
    }

    /** The call gave NONE, and left that STATUS. */
    static void no(SumWalker x, String call, long got, int status) {
        is(call, got, SumWalker.NONE);
        is(call + ", then status()", x.status(), status);
    }

    static void tell(String fault) {
        wrong++;
        if (wrong <= 50) {
            System.out.println((promise > 0 ? "promise " + promise : "terms") + sentence + ": " + fault);
        }
    }

    /** Feeds a text, twenty bytes a call, zeros behind its end. */
    static void feed(SumWalker x, String text) {
        for (int at = 0; at < text.length(); at += 20) {
            int[] five = new int[5];
            for (int i = 0; i < 20; i++) {
                int sign = at + i < text.length() ? text.charAt(at + i) : 0;
                five[i / 4] |= sign << (24 - 8 * (i % 4));
            }
            x.feed(five[0], five[1], five[2], five[3], five[4]);
        }
    }

    static int load(SumWalker x, String text) {
        feed(x, text);
        return x.load(text.length());
    }

    /** A new object with that desk. */
    static SumWalker desk(String text) {
        SumWalker x = new SumWalker();
        if (load(x, text) < 0) {
            tell("no desk: " + text);
        }
        return x;
    }

    static void end() {
        System.out.println(asked + " answers asked, " + wrong + " not as due");
        if (wrong != 0) {
            System.exit(1);
        }
    }
}
