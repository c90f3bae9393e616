/** Promises 51 to 59: acts. */
public final class ActsTest {
    private static final int TOP = 999_999_999;
    private static final int[] NO_NUMBERS = {0, -1, Integer.MIN_VALUE, TOP + 1, Integer.MAX_VALUE};
    private static final int[] NO_ROWS = {-1, 6, Integer.MIN_VALUE, Integer.MAX_VALUE};

    public static void main(String[] args) {
        put();
        retell();
        drop();
        follow();
        trade();
        rule();
        print();
        out();
        undo();
        Due.end();
    }

    private static void rowsAre(SumWalker x, int... due) {
        Due.ok(x, "many(0)", x.many(0), due.length);
        for (int r = 0; r < due.length; r++) {
            Due.ok(x, "row(" + r + ")", x.row(r), due[r]);
            Due.ok(x, "value(" + r + ", 0)", x.value(r, 0), due[r]);
        }
        Due.no(x, "row behind all", x.row(due.length), Due.NO_ROW);
    }

    private static void put() {
        Due.promise(51);
        SumWalker x = new SumWalker();
        for (int r = 0; r < 6; r++) {
            Due.ok(x, "put(" + (r + 10) + ")", x.put(r + 10), r);
        }
        rowsAre(x, 10, 11, 12, 13, 14, 15);
        Due.no(x, "put(5)", x.put(5), Due.TOO_MANY);
        for (int n : NO_NUMBERS) {
            Due.no(x, "put(" + n + "): 1 ahead of 3", x.put(n), Due.WRONG);
        }
        Due.ok(x, "many(4)", x.many(4), 6);
        rowsAre(x, 10, 11, 12, 13, 14, 15);
        SumWalker y = Due.desk("row a 7;");
        Due.ok(y, "put(999999999)", y.put(TOP), 1);
        Due.ok(y, "put(7): the same number again", y.put(7), 2);
        rowsAre(y, 7, TOP, 7);
    }

    private static void retell() {
        Due.promise(52);
        SumWalker x = Due.desk("row a 12;row b 6;");
        Due.ok(x, "value(0, -1)", x.value(0, -1), 8);
        Due.ok(x, "retell(0, 25)", x.retell(0, 25), 12);
        Due.ok(x, "value(0, -1)", x.value(0, -1), 2);
        Due.ok(x, "retell(1, 25)", x.retell(1, 25), 6);
        rowsAre(x, 25, 25);
        Due.no(x, "retell(1, 25)", x.retell(1, 25), Due.ALREADY);
        for (int n : NO_NUMBERS) {
            Due.no(x, "retell(9, " + n + "): 1 ahead of 2", x.retell(9, n), Due.WRONG);
        }
        for (int r : NO_ROWS) {
            Due.no(x, "retell(" + r + ", 25)", x.retell(r, 25), Due.NO_ROW);
        }
        Due.no(x, "retell(2, 25)", x.retell(2, 25), Due.NO_ROW);
        Due.ok(x, "many(4)", x.many(4), 2);
    }

    private static void drop() {
        Due.promise(53);
        SumWalker x = Due.desk("row a 12;row b 6;row c 25;row d 7;");
        x.value(1, -1);
        x.value(2, -1);
        Due.ok(x, "drop(1)", x.drop(1), 3);
        rowsAre(x, 12, 25, 7);
        Due.ok(x, "value(1, 1)", x.value(1, 1), 6);
        Due.ok(x, "drop(2)", x.drop(2), 2);
        Due.ok(x, "drop(0)", x.drop(0), 1);
        rowsAre(x, 25);
        Due.no(x, "drop(1)", x.drop(1), Due.NO_ROW);
        for (int r : NO_ROWS) {
            Due.no(x, "drop(" + r + ")", x.drop(r), Due.NO_ROW);
        }
        Due.ok(x, "drop(0)", x.drop(0), 0);
        rowsAre(x);
        Due.no(x, "drop(0)", x.drop(0), Due.NO_ROW);
        Due.ok(x, "put(8)", x.put(8), 0);
        Due.ok(x, "many(4)", x.many(4), 5);
    }

    private static void follow() {
        Due.promise(54);
        SumWalker x = Due.desk("row a 12;row b 6;row c 25;row d 1;row e 138;");
        Due.ok(x, "follow(0)", x.follow(0), 16);
        Due.ok(x, "follow(0)", x.follow(0), 15);
        Due.ok(x, "value(0, -1)", x.value(0, -1), 6);
        Due.ok(x, "follow(2)", x.follow(2), 6);
        Due.no(x, "follow(2): one VALUE alone", x.follow(2), Due.NOTHING);
        Due.no(x, "follow(1): one VALUE alone", x.follow(1), Due.NOTHING);
        Due.no(x, "follow(3): the second one is 0", x.follow(3), Due.NOTHING);
        rowsAre(x, 15, 6, 6, 1, 138);
        Due.ok(x, "rule(0, 149)", x.rule(0, 149), 100_000);
        Due.no(x, "follow(4): BEYOND at once", x.follow(4), Due.NOTHING);
        Due.ok(x, "rule(0, 150)", x.rule(0, 150), 149);
        Due.ok(x, "follow(4)", x.follow(4), 150);
        Due.no(x, "follow(4)", x.follow(4), Due.NOTHING);
        Due.no(x, "follow(5)", x.follow(5), Due.NO_ROW);
        for (int r : NO_ROWS) {
            Due.no(x, "follow(" + r + ")", x.follow(r), Due.NO_ROW);
        }
        Due.ok(x, "many(4)", x.many(4), 6);
        SumWalker y = Due.desk("law reduced;row a 7;row b 8;");
        Due.no(y, "follow(0) reduced", y.follow(0), Due.NOTHING);
        Due.ok(y, "follow(1) reduced", y.follow(1), 6);
    }

    private static void trade() {
        Due.promise(55);
        SumWalker x = Due.desk("row a 12;row b 6;row c 25;");
        Due.ok(x, "trade(0, 1)", x.trade(0, 1), 1);
        rowsAre(x, 6, 12, 25);
        Due.ok(x, "trade(1, 2)", x.trade(1, 2), 2);
        rowsAre(x, 6, 25, 12);
        Due.ok(x, "trade(0, 2)", x.trade(0, 2), 8);
        Due.ok(x, "value(2, -1)", x.value(2, -1), 1);
        rowsAre(x, 12, 25, 6);
        Due.no(x, "trade(1, 1)", x.trade(1, 1), Due.ALREADY);
        Due.no(x, "trade(3, 3): 2 ahead of 4", x.trade(3, 3), Due.NO_ROW);
        Due.no(x, "trade(0, 3)", x.trade(0, 3), Due.NO_ROW);
        for (int r : NO_ROWS) {
            Due.no(x, "trade(" + r + ", 0)", x.trade(r, 0), Due.NO_ROW);
            Due.no(x, "trade(0, " + r + ")", x.trade(0, r), Due.NO_ROW);
        }
        Due.ok(x, "many(4)", x.many(4), 3);
    }

    private static void rule() {
        Due.promise(56);
        SumWalker x = Due.desk("row a 12;");
        Due.ok(x, "value(0, -1)", x.value(0, -1), 8);
        Due.ok(x, "rule(0, 15)", x.rule(0, 15), 100_000);
        Due.ok(x, "value(0, -1) by BOUND", x.value(0, -1), 1);
        Due.ok(x, "rule(0, 999999999)", x.rule(0, TOP), 15);
        Due.ok(x, "rule(1, 2)", x.rule(1, 2), 30);
        Due.ok(x, "value(0, -1) by STEPS", x.value(0, -1), 3);
        Due.ok(x, "rule(1, 100)", x.rule(1, 100), 2);
        Due.ok(x, "rule(2, 3)", x.rule(2, 3), 0);
        Due.ok(x, "value(0, -1) by LAW", x.value(0, -1), 1);
        Due.ok(x, "rule(2, 0)", x.rule(2, 0), 3);
        Due.ok(x, "rule(0, 1)", x.rule(0, 1), TOP);
        Due.ok(x, "rule(1, 1)", x.rule(1, 1), 100);
        Due.no(x, "rule(0, 1)", x.rule(0, 1), Due.ALREADY);
        Due.no(x, "rule(1, 1)", x.rule(1, 1), Due.ALREADY);
        Due.no(x, "rule(2, 0)", x.rule(2, 0), Due.ALREADY);
        int[][] bad = {{0, 0}, {0, -1}, {0, TOP + 1}, {0, Integer.MIN_VALUE}, {1, 0}, {1, 101}, {1, -1}, {2, -1},
            {2, 4}, {3, 1}, {-1, 1}, {Integer.MAX_VALUE, 1}};
        for (int[] one : bad) {
            Due.no(x, "rule(" + one[0] + ", " + one[1] + ")", x.rule(one[0], one[1]), Due.WRONG);
        }
        Due.ok(x, "many(1)", x.many(1), 1);
        Due.ok(x, "many(2)", x.many(2), 1);
        Due.ok(x, "many(3)", x.many(3), 0);
        Due.ok(x, "many(4)", x.many(4), 8);
    }

    private static void printed(String text, String due) {
        SumWalker x = Due.desk(text);
        Due.ok(x, text + " print(0)", x.print(0), due.length());
        StringBuilder got = new StringBuilder();
        for (int i = 0; i < due.length(); i++) {
            got.append((char) x.out(i));
        }
        Due.is(text + " printed '" + got + "'", got.toString().equals(due) ? 1 : 0, 1);
        Due.no(x, text + " out behind all", x.out(due.length()), Due.NOTHING);
    }

    private static void print() {
        Due.promise(57);
        printed("row a 12;", "2^2*3 2^4 3*5 3^2 2^2 3 1 0");
        printed("row a 1;", "1 0");
        printed("row a 6;", "2*3");
        printed("row a 360;steps 1;", "2^3*3^2*5 2*3^4*5");
        printed("row a 536870912;bound 1;", "2^29");
        printed("row a 101;", "101 1 0");
        printed("row a 100;bound 1;", "2^2*5^2");
        printed("row a 10007;", "10007 1 0");
        printed("row a 1024;bound 1;", "2^10");
        printed("row a 999999937;bound 1;", "999999937 1 0");
        printed("row a 223092870;bound 1;", "2*3*5*7*11*13*17*19*23");
        printed("row a 290990700;bound 1;", "2^2*3^2*5^2*7*11*13*17*19");
        printed("row a 999002449;bound 1;", "31607^2");
        printed("row a 10;law reduced;", "2*5 7 0");
        SumWalker x = Due.desk("row a 1;row b 25;");
        Due.ok(x, "print(1)", x.print(1), 7);
        Due.no(x, "print(2)", x.print(2), Due.NO_ROW);
        for (int r : NO_ROWS) {
            Due.no(x, "print(" + r + ")", x.print(r), Due.NO_ROW);
        }
        Due.ok(x, "out(0): OUT stays", x.out(0), '5');
        Due.ok(x, "print(0): a shorter one", x.print(0), 3);
        Due.no(x, "out(3)", x.out(3), Due.NOTHING);
        Due.ok(x, "many(4): print() is no ACT", x.many(4), 0);
        int blanks = 0;
        int bytes = 1;
        // An object is used for 512 calls at most, so each one tells some of OUT.
        for (int from = 0; from < bytes; from += 500) {
            SumWalker y = Due.desk("bound 999999999;steps 100;row a 138;");
            bytes = y.print(0);
            for (int i = from; i < bytes && i < from + 500; i++) {
                blanks += y.out(i) == ' ' ? 1 : 0;
            }
        }
        Due.is("blanks in the longest that can be", blanks, 100);
    }

    private static void out() {
        Due.promise(58);
        SumWalker x = Due.desk("row a 25;");
        Due.no(x, "out(0) ahead of any", x.out(0), Due.NOTHING);
        Due.no(x, "out(-1)", x.out(-1), Due.WRONG);
        x.print(0);
        String due = "5^2 2*3";
        for (int i = 0; i < due.length(); i++) {
            Due.ok(x, "out(" + i + ")", x.out(i), due.charAt(i));
        }
        Due.no(x, "out(7)", x.out(7), Due.NOTHING);
        Due.no(x, "out(MAX)", x.out(Integer.MAX_VALUE), Due.NOTHING);
        Due.no(x, "out(-1)", x.out(-1), Due.WRONG);
        Due.no(x, "out(MIN)", x.out(Integer.MIN_VALUE), Due.WRONG);
        // OUT is what was printed, whatever comes later.
        x.retell(0, 6);
        x.drop(0);
        x.load(0);
        Due.ok(x, "out(6)", x.out(6), '3');
        x.undo();
        Due.ok(x, "out(1)", x.out(1), '^');
    }

    private static void undo() {
        Due.promise(59);
        SumWalker x = Due.desk("row a 12;row b 6;");
        Due.no(x, "undo()", x.undo(), Due.NOTHING);
        x.put(25);
        x.retell(1, 28);
        x.follow(0);
        x.trade(0, 2);
        x.rule(0, 300);
        x.rule(1, 7);
        x.rule(2, 1);
        x.drop(1);
        rowsAre(x, 25, 16);
        Due.ok(x, "undo() of drop()", x.undo(), 7);
        rowsAre(x, 25, 28, 16);
        Due.ok(x, "undo() of rule()", x.undo(), 6);
        Due.ok(x, "many(3)", x.many(3), 0);
        Due.ok(x, "undo() of rule()", x.undo(), 5);
        Due.ok(x, "many(2)", x.many(2), 30);
        Due.ok(x, "undo() of rule()", x.undo(), 4);
        Due.ok(x, "many(1)", x.many(1), 100_000);
        Due.ok(x, "undo() of trade()", x.undo(), 3);
        rowsAre(x, 16, 28, 25);
        Due.ok(x, "undo() of follow()", x.undo(), 2);
        rowsAre(x, 12, 28, 25);
        Due.ok(x, "value(0, -1)", x.value(0, -1), 8);
        Due.ok(x, "undo() of retell()", x.undo(), 1);
        Due.ok(x, "undo() of put()", x.undo(), 0);
        rowsAre(x, 12, 6);
        Due.no(x, "undo()", x.undo(), Due.NOTHING);
        // 8 are kept, the latest ones; a call that is refused is no ACT.
        for (int n = 1; n <= 10; n++) {
            x.retell(0, n);
            x.retell(0, n);
            x.put(0);
            x.follow(7);
            Due.ok(x, "many(4)", x.many(4), Math.min(n, 8));
        }
        for (int left = 7; left >= 0; left--) {
            Due.ok(x, "undo()", x.undo(), left);
            Due.ok(x, "row(0)", x.row(0), left + 2);
        }
        Due.no(x, "undo() of a ninth", x.undo(), Due.NOTHING);
        rowsAre(x, 2, 6);
        // What is undone is gone: the next ACT comes behind those left.
        x.retell(0, 50);
        x.retell(0, 60);
        x.undo();
        x.retell(0, 70);
        Due.ok(x, "undo()", x.undo(), 1);
        Due.ok(x, "row(0)", x.row(0), 50);
        Due.ok(x, "undo()", x.undo(), 0);
        Due.ok(x, "row(0)", x.row(0), 2);
        x.put(4);
        Due.no(x, "a DESK with a FAULT", Due.load(x, "law"), Due.FAULTY);
        Due.ok(x, "undo(): load() with 9 forgets none", x.undo(), 0);
        x.put(4);
        x.load(0);
        Due.no(x, "undo() behind load()", x.undo(), Due.NOTHING);
    }
}
