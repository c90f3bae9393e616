import java.util.Map;

/** Promises 51 to 59, sentence by sentence: no ROWS and six, first and last ones, least and greatest rules. */
public final class ActEdgesTest {
    private static final int TOP = 999_999_999;
    private static final String SIX = "row a 12;row b 220;row c 138;row d 25;row e 6;row f 1;";
    private static final int[] STARTS = {12, 220, 138, 25, 6, 1};

    public static void main(String[] args) {
        put();
        retell();
        drop();
        follow();
        trade();
        rule();
        print();
        out();
        undo();
        Due.end();
    }

    private static void rowsAre(SumWalker x, int... due) {
        Due.ok(x, "many(0)", x.many(0), due.length);
        for (int r = 0; r < due.length; r++) {
            Due.ok(x, "row(" + r + ")", x.row(r), due[r]);
        }
        for (int r = due.length; r < 7; r++) {
            Due.no(x, "row(" + r + ")", x.row(r), Due.NO_ROW);
        }
    }

    private static void put() {
        Due.promise(51);
        Due.sentence("A ROW from n comes behind all: its number (1; 3: there are 6)");
        SumWalker x = new SumWalker();
        rowsAre(x);
        Due.ok(x, "put(1): the first ROW", x.put(1), 0);
        Due.ok(x, "put(999999999)", x.put(TOP), 1);
        Due.ok(x, "put(1) again", x.put(1), 2);
        Due.ok(x, "put(2)", x.put(2), 3);
        Due.ok(x, "put(3)", x.put(3), 4);
        Due.ok(x, "put(4): the last ROW that there may be", x.put(4), 5);
        rowsAre(x, 1, TOP, 1, 2, 3, 4);
        for (int i = 0; i < 3; i++) {
            Due.no(x, "put(5) of a seventh", x.put(5), Due.TOO_MANY);
        }
        rowsAre(x, 1, TOP, 1, 2, 3, 4);
        Due.ok(x, "drop(5)", x.drop(5), 5);
        Due.ok(x, "put(6): there is room again", x.put(6), 5);
        Due.no(x, "put(7)", x.put(7), Due.TOO_MANY);
        Due.ok(x, "many(4)", x.many(4), 8);
        Due.ok(x, "undo()", x.undo(), 7);
        Due.ok(x, "undo(): six again", x.undo(), 6);
        Due.no(x, "put(7)", x.put(7), Due.TOO_MANY);
        rowsAre(x, 1, TOP, 1, 2, 3, 4);
        SumWalker y = Due.desk(SIX);
        Due.no(y, "put(1) behind six of a TEXT", y.put(1), Due.TOO_MANY);
        Due.ok(y, "many(4)", y.many(4), 0);
    }

    private static void retell() {
        Due.promise(52);
        Due.sentence("A ROW is from another number: from which it was (1; 2; 4)");
        SumWalker x = Due.desk(SIX);
        Due.ok(x, "retell(0, 1): the first ROW", x.retell(0, 1), 12);
        Due.ok(x, "retell(5, 999999999): the last ROW", x.retell(5, TOP), 1);
        Due.no(x, "retell(5, 999999999): so already", x.retell(5, TOP), Due.ALREADY);
        Due.no(x, "retell(0, 1): so already", x.retell(0, 1), Due.ALREADY);
        Due.ok(x, "retell(0, 220): as another ROW", x.retell(0, 220), 1);
        Due.ok(x, "retell(0, 12): as it was", x.retell(0, 12), 220);
        Due.no(x, "retell(0, 0)", x.retell(0, 0), Due.WRONG);
        Due.no(x, "retell(0, 1000000000)", x.retell(0, TOP + 1), Due.WRONG);
        rowsAre(x, 12, 220, 138, 25, 6, TOP);
        Due.ok(x, "many(4)", x.many(4), 4);
    }

    private static void drop() {
        Due.promise(53);
        Due.sentence("A ROW goes; those behind it come up by one number: how many are left");
        for (int r = 0; r < 6; r++) {
            SumWalker x = Due.desk(SIX);
            for (int k = 0; k < 6; k++) {
                x.value(k, SumWalker.NONE);
            }
            Due.ok(x, "drop(" + r + ")", x.drop(r), 5);
            for (int k = 0; k < 5; k++) {
                int from = STARTS[k < r ? k : k + 1];
                Due.ok(x, "row(" + k + ") without " + r, x.row(k), from);
                Due.ok(x, "value(" + k + ", 0) without " + r, x.value(k, 0), from);
            }
            Due.no(x, "row(5)", x.row(5), Due.NO_ROW);
            Due.no(x, "drop(5)", x.drop(5), Due.NO_ROW);
            Due.ok(x, "undo()", x.undo(), 0);
            rowsAre(x, STARTS);
        }
        SumWalker x = Due.desk(SIX);
        for (int left = 5; left >= 0; left--) {
            Due.ok(x, "drop(0)", x.drop(0), left);
        }
        Due.no(x, "drop(0) of none", x.drop(0), Due.NO_ROW);
        for (int left = 5; left >= 0; left--) {
            Due.ok(x, "undo()", x.undo(), left);
        }
        rowsAre(x, STARTS);
        SumWalker y = Due.desk(SIX);
        for (int r = 5; r >= 0; r--) {
            Due.ok(y, "drop(" + r + "): the last one", y.drop(r), r);
        }
        rowsAre(y);
        Due.ok(y, "put(9) behind none", y.put(9), 0);
    }

    private static void follow() {
        Due.promise(54);
        Due.sentence("A ROW is from its second VALUE on: that (2; 5: it has one VALUE alone, or the second one is 0)");
        SumWalker x = Due.desk("row a 12;");
        for (int due : new int[] {16, 15, 9, 4, 3, 1}) {
            Due.ok(x, "follow(0)", x.follow(0), due);
            Due.ok(x, "row(0)", x.row(0), due);
        }
        Due.no(x, "follow(0): the second one is 0", x.follow(0), Due.NOTHING);
        Due.ok(x, "row(0)", x.row(0), 1);
        Due.ok(x, "many(4)", x.many(4), 6);
        SumWalker y = Due.desk("steps 1;row a 220;row b 6;row c 562;");
        Due.ok(y, "follow(0) round", y.follow(0), 284);
        Due.ok(y, "follow(0) round", y.follow(0), 220);
        Due.no(y, "follow(1): one VALUE alone", y.follow(1), Due.NOTHING);
        Due.ok(y, "follow(2): LONG with one more VALUE", y.follow(2), 284);
        SumWalker z = Due.desk("bound 15;row a 12;row b 999999999;row c 999999937;");
        Due.no(z, "follow(0): the second one is BEYOND", z.follow(0), Due.NOTHING);
        Due.no(z, "follow(1): the second one is BEYOND", z.follow(1), Due.NOTHING);
        Due.ok(z, "follow(2) of a prime", z.follow(2), 1);
        Due.no(z, "follow(2) of 1", z.follow(2), Due.NOTHING);
        z.rule(0, 16);
        Due.ok(z, "follow(0): BOUND lets it", z.follow(0), 16);
        z.rule(2, 2);
        z.retell(2, 999_999_937);
        Due.no(z, "follow(2): the second one is 0", z.follow(2), Due.NOTHING);
    }

    private static void trade() {
        Due.promise(55);
        Due.sentence("Two ROWS change their places: how many VALUES that has which is the first one's place then");
        int[] values = {8, 2, 23, 2, 1, 2};
        for (int r = 0; r < 6; r++) {
            for (int other = 0; other < 6; other++) {
                if (r == other) {
                    continue;
                }
                SumWalker x = Due.desk(SIX);
                int[] due = STARTS.clone();
                due[r] = STARTS[other];
                due[other] = STARTS[r];
                Due.ok(x, "trade(" + r + ", " + other + ")", x.trade(r, other), values[other]);
                rowsAre(x, due);
                Due.ok(x, "trade(" + other + ", " + r + ") back", x.trade(other, r), values[other]);
                rowsAre(x, STARTS);
                Due.ok(x, "many(4)", x.many(4), 2);
            }
        }
        SumWalker x = Due.desk("row a 12;row b 12;");
        Due.ok(x, "trade(0, 1) of two from the same number", x.trade(0, 1), 8);
        Due.ok(x, "many(4)", x.many(4), 1);
    }

    private static void rule() {
        Due.promise(56);
        Due.sentence("BOUND, STEPS, LAW is another one, as a text could tell: what it was (1; 4)");
        SumWalker x = new SumWalker();
        Due.no(x, "rule(0, 100000): as without a LINE", x.rule(0, 100_000), Due.ALREADY);
        Due.no(x, "rule(1, 30): as without a LINE", x.rule(1, 30), Due.ALREADY);
        Due.no(x, "rule(2, 0): as without a LINE", x.rule(2, 0), Due.ALREADY);
        Due.ok(x, "many(4)", x.many(4), 0);
        Due.ok(x, "rule(0, 1): the least", x.rule(0, 1), 100_000);
        Due.ok(x, "rule(0, 999999999): the greatest", x.rule(0, TOP), 1);
        Due.ok(x, "rule(1, 1): the least", x.rule(1, 1), 30);
        Due.ok(x, "rule(1, 100): the greatest", x.rule(1, 100), 1);
        Due.ok(x, "rule(2, 3): the greatest", x.rule(2, 3), 0);
        Due.ok(x, "rule(2, 1)", x.rule(2, 1), 3);
        Due.ok(x, "rule(2, 2)", x.rule(2, 2), 1);
        Due.ok(x, "rule(2, 0): the least", x.rule(2, 0), 2);
        Due.ok(x, "many(1)", x.many(1), TOP);
        Due.ok(x, "many(2)", x.many(2), 100);
        Due.ok(x, "many(3)", x.many(3), 0);
        Due.no(x, "rule(1, 999): no STEPS", x.rule(1, 999), Due.WRONG);
        Due.no(x, "rule(2, 100): no LAW", x.rule(2, 100), Due.WRONG);
        // Each what changes its own alone.
        for (int what = 0; what < 3; what++) {
            SumWalker y = new SumWalker();
            y.rule(what, 3);
            for (int other = 0; other < 3; other++) {
                int without = other == 0 ? 100_000 : other == 1 ? 30 : 0;
                Due.ok(y, "many(" + (1 + other) + ") behind rule(" + what + ", 3)", y.many(1 + other),
                    what == other ? 3 : without);
            }
        }
    }

    private static void printed(String text, String due) {
        SumWalker x = Due.desk(text);
        Due.ok(x, text + " print(0)", x.print(0), due.length());
        for (int i = 0; i < due.length(); i++) {
            Due.ok(x, text + " out(" + i + ")", x.out(i), due.charAt(i));
        }
        Due.no(x, text + " out(behind all)", x.out(due.length()), Due.NOTHING);
    }

    private static void print() {
        Due.promise(57);
        Due.sentence("each (but 0) as its primes, rising, each with ^ and how often, if that is more than 1, with * between "
            + "primes (1: 1; 0: 0), between VALUES a blank");
        printed("row a 1;", "1 0");
        printed("law reduced;row a 2;", "2 0");
        printed("row a 2;", "2 1 0");
        printed("row a 6;", "2*3");
        printed("row a 25;", "5^2 2*3");
        printed("row a 4;", "2^2 3 1 0");
        printed("bound 1;row a 512;", "2^9");
        printed("bound 1;row a 1024;", "2^10");
        printed("bound 1;row a 536870912;", "2^29");
        printed("bound 1;row a 999999937;", "999999937 1 0");
        printed("bound 1;row a 999999999;", "3^4*37*333667");
        printed("bound 1;row a 999002449;", "31607^2");
        printed("bound 1;row a 223092870;", "2*3*5*7*11*13*17*19*23");
        printed("bound 1;row a 735134400;", "2^6*3^3*5^2*7*11*13*17");
        printed("bound 1;row a 100000000;", "2^8*5^8");
        printed("bound 999999999;row a 930793204;", line(930_793_204) + " " + line(999_728_396));
    }

    /** A number as its primes, told by the Model. */
    private static String line(int n) {
        StringBuilder line = new StringBuilder();
        for (Map.Entry<Integer, Integer> one : Model.primesOf(n).entrySet()) {
            line.append(line.length() > 0 ? "*" : "").append(one.getKey());
            line.append(one.getValue() > 1 ? "^" + one.getValue() : "");
        }
        return line.toString();
    }

    private static void out() {
        Due.promise(58);
        Due.sentence("Byte i of OUT (1: below 0; 5: OUT has not so many, or there is none yet)");
        SumWalker x = Due.desk("row a 6;row b 1;");
        Due.no(x, "out(0): none yet", x.out(0), Due.NOTHING);
        Due.no(x, "print(2)", x.print(2), Due.NO_ROW);
        Due.no(x, "out(0): none by a refused print()", x.out(0), Due.NOTHING);
        Due.ok(x, "print(0)", x.print(0), 3);
        Due.ok(x, "out(0): the first", x.out(0), '2');
        Due.ok(x, "out(2): the last", x.out(2), '3');
        Due.no(x, "out(3)", x.out(3), Due.NOTHING);
        Due.no(x, "out(2147483647)", x.out(Integer.MAX_VALUE), Due.NOTHING);
        Due.no(x, "out(-1)", x.out(-1), Due.WRONG);
        Due.no(x, "out(-2147483648)", x.out(Integer.MIN_VALUE), Due.WRONG);
        Due.no(x, "print(2)", x.print(2), Due.NO_ROW);
        Due.ok(x, "out(2): OUT is as it was", x.out(2), '3');
    }

    private static void undo() {
        Due.promise(59);
        Due.sentence("UNDO: how many more can be (5)");
        SumWalker x = new SumWalker();
        for (int i = 0; i < 3; i++) {
            Due.no(x, "undo() of none", x.undo(), Due.NOTHING);
        }
        for (int n = 1; n <= 6; n++) {
            x.put(n);
        }
        x.rule(1, 31);
        x.rule(1, 32);
        Due.ok(x, "many(4)", x.many(4), 8);
        for (int left = 7; left >= 0; left--) {
            Due.ok(x, "undo()", x.undo(), left);
            Due.ok(x, "many(0)", x.many(0), Math.min(6, left));
        }
        Due.no(x, "undo() of a ninth", x.undo(), Due.NOTHING);
        rowsAre(x);
        for (int n = 1; n <= 6; n++) {
            x.put(n);
        }
        for (int n = 7; n <= 9; n++) {
            x.retell(5, n);
        }
        Due.ok(x, "many(4): of nine ACTS", x.many(4), 8);
        for (int left = 7; left >= 0; left--) {
            Due.ok(x, "undo()", x.undo(), left);
        }
        Due.no(x, "undo(): the first put() is no more kept", x.undo(), Due.NOTHING);
        rowsAre(x, 1);
        // undo() is no ACT itself: what is undone does not come again.
        x.put(2);
        x.put(3);
        Due.ok(x, "undo()", x.undo(), 1);
        Due.ok(x, "undo()", x.undo(), 0);
        Due.no(x, "undo()", x.undo(), Due.NOTHING);
        rowsAre(x, 1);
    }
}
