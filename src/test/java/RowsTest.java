/** Promises 28 to 42: rows. */
public final class RowsTest {
    private static final int[] NO_ROWS = {-1, 6, Integer.MIN_VALUE, Integer.MAX_VALUE};
    /** NOUGHT, ROUND of itself, ROUND behind one, BEYOND, ROUND of two behind one, a row of 1. */
    private static final String SIX = "row a 12;row b 6;row c 25;row d 138;row e 562;row f 1;";
    private static final int[][] VALUES = {
        {12, 16, 15, 9, 4, 3, 1, 0}, {6}, {25, 6},
        {138, 150, 222, 234, 312, 528, 960, 2088, 3762, 5598, 6570, 10746, 13254, 13830, 19434, 20886, 21606,
            25098, 26742, 26754, 40446, 63234, 77406},
        {562, 284, 220}, {1, 0}
    };

    public static void main(String[] args) {
        row();
        value();
        ends();
        round();
        peak();
        climb();
        total();
        growth();
        kept();
        guides();
        splits();
        lost();
        duel();
        meets();
        alike();
        Due.end();
    }

    private static void row() {
        Due.promise(28);
        SumWalker x = Due.desk(SIX);
        for (int r = 0; r < 6; r++) {
            Due.ok(x, "row(" + r + ")", x.row(r), VALUES[r][0]);
        }
        for (int r : NO_ROWS) {
            Due.no(x, "row(" + r + ")", x.row(r), Due.NO_ROW);
        }
        SumWalker y = Due.desk("row a 999999999;");
        Due.ok(y, "row(0)", y.row(0), 999_999_999);
        Due.no(y, "row(1)", y.row(1), Due.NO_ROW);
    }

    private static void value() {
        Due.promise(29);
        SumWalker x = Due.desk(SIX);
        for (int r = 0; r < 6; r++) {
            Due.ok(x, "value(" + r + ", -1)", x.value(r, -1), VALUES[r].length);
            for (int k = 0; k < VALUES[r].length; k++) {
                Due.ok(x, "value(" + r + ", " + k + ")", x.value(r, k), VALUES[r][k]);
            }
            Due.no(x, "value(" + r + ", too far)", x.value(r, VALUES[r].length), Due.NOTHING);
        }
        Due.no(x, "value(0, MAX)", x.value(0, Integer.MAX_VALUE), Due.NOTHING);
        Due.no(x, "value(0, -2)", x.value(0, -2), Due.WRONG);
        Due.no(x, "value(9, -2): 1 ahead of 2", x.value(9, -2), Due.WRONG);
        for (int r : NO_ROWS) {
            Due.no(x, "value(" + r + ", 99): 2 ahead of 5", x.value(r, 99), Due.NO_ROW);
        }
        // The first VALUE alone may be above BOUND, and it counts as had.
        valuesAre("bound 1;row a 12;", 12);
        valuesAre("bound 10;row a 15;", 15, 9, 4, 3, 1, 0);
        valuesAre("bound 9;row a 15;", 15, 9, 4, 3, 1, 0);
        valuesAre("bound 8;row a 15;", 15);
        valuesAre("bound 250;row a 284;", 284, 220);
        valuesAre("steps 1;row a 12;", 12, 16);
        valuesAre("steps 3;row a 12;", 12, 16, 15, 9);
        valuesAre("law unitary;row a 30;", 30, 42, 54);
        valuesAre("law reduced;row a 48;", 48, 75);
        valuesAre("law reduced;row a 8;", 8, 6, 5, 0);
        valuesAre("law bare;row a 18;", 18, 12);
        valuesAre("bound 999999999;row a 735134400;", 735_134_400);
        SumWalker y = Due.desk("bound 999999999;steps 100;row a 276;");
        Due.ok(y, "value(0, -1)", y.value(0, -1), 35);
        SumWalker z = Due.desk("bound 999999999;steps 100;row a 138;");
        Due.ok(z, "value(0, -1) of the longest that can be", z.value(0, -1), 101);
        Due.no(z, "value(0, 101)", z.value(0, 101), Due.NOTHING);
    }

    private static void valuesAre(String text, int... due) {
        SumWalker x = Due.desk(text);
        Due.ok(x, text + " value(0, -1)", x.value(0, -1), due.length);
        for (int k = 0; k < due.length; k++) {
            Due.ok(x, text + " value(0, " + k + ")", x.value(0, k), due[k]);
        }
    }

    private static void ends() {
        Due.promise(30);
        SumWalker x = Due.desk(SIX);
        int[] due = {0, 1, 1, 2, 1, 0};
        for (int r = 0; r < 6; r++) {
            Due.ok(x, "ends(" + r + ")", x.ends(r), due[r]);
        }
        for (int r : NO_ROWS) {
            Due.no(x, "ends(" + r + ")", x.ends(r), Due.NO_ROW);
        }
        endIs("steps 1;row a 12;", 3);
        endIs("steps 6;row a 12;", 3);
        endIs("steps 7;row a 12;", 0);
        endIs("steps 1;row a 1;", 0);
        endIs("steps 1;row a 6;", 1);
        endIs("steps 2;row a 562;", 3);
        endIs("steps 3;row a 562;", 1);
        endIs("steps 22;row a 138;", 3);
        endIs("steps 23;row a 138;", 2);
        endIs("bound 1;row a 6;", 1);
        endIs("bound 250;row a 284;", 1);
        endIs("bound 250;row a 220;", 2);
        endIs("bound 284;row a 220;", 1);
        endIs("bound 283;row a 220;", 2);
        endIs("bound 999999999;row a 735134400;", 2);
        endIs("law reduced;row a 7;", 0);
        endIs("law reduced;row a 48;", 1);
    }

    private static void endIs(String text, int due) {
        SumWalker x = Due.desk(text);
        Due.ok(x, text + " ends(0)", x.ends(0), due);
    }

    private static void round() {
        Due.promise(31);
        SumWalker x = Due.desk(SIX);
        int[][] due = {null, {0, 1, 6}, {1, 1, 6}, null, {1, 2, 220}, null};
        for (int r = 0; r < 6; r++) {
            for (int what = 0; what < 3; what++) {
                if (due[r] == null) {
                    Due.no(x, "round(" + r + ", " + what + ")", x.round(r, what), Due.NOTHING);
                } else {
                    Due.ok(x, "round(" + r + ", " + what + ")", x.round(r, what), due[r][what]);
                }
            }
        }
        SumWalker y = Due.desk("row a 12496;row b 1;steps 3;row c 12;");
        y.rule(1, 30);
        Due.ok(y, "round(0, 0)", y.round(0, 0), 0);
        Due.ok(y, "round(0, 1)", y.round(0, 1), 5);
        Due.ok(y, "round(0, 2)", y.round(0, 2), 12_496);
        y.rule(1, 4);
        Due.no(y, "round(0, 1) of a LONG one", y.round(0, 1), Due.NOTHING);
        Due.no(x, "round(1, 3)", x.round(1, 3), Due.WRONG);
        Due.no(x, "round(1, -1)", x.round(1, -1), Due.WRONG);
        Due.no(x, "round(9, 3): 1 ahead of 2", x.round(9, 3), Due.WRONG);
        for (int r : NO_ROWS) {
            Due.no(x, "round(" + r + ", 0)", x.round(r, 0), Due.NO_ROW);
        }
    }

    private static void wrongs(String name, int lastWhat) {
        SumWalker x = Due.desk(SIX);
        Due.no(x, name + " what one too far", ask(x, name, 0, lastWhat + 1), Due.WRONG);
        Due.no(x, name + " what -1", ask(x, name, 0, -1), Due.WRONG);
        Due.no(x, name + " what -1: 1 ahead of 2", ask(x, name, 9, -1), Due.WRONG);
        for (int r : NO_ROWS) {
            Due.no(x, name + " row " + r, ask(x, name, r, 0), Due.NO_ROW);
        }
    }

    private static long ask(SumWalker x, String name, int r, int what) {
        switch (name) {
            case "peak": return x.peak(r, what);
            case "climb": return x.climb(r, what);
            case "total": return x.total(r, what);
            case "kept": return x.kept(r, what);
            default: return x.guides(r, what);
        }
    }

    private static void whats(String text, String name, int... due) {
        SumWalker x = Due.desk(text);
        for (int what = 0; what < due.length; what++) {
            String call = text + " " + name + "(0, " + what + ")";
            long got = ask(x, name, 0, what);
            if (due[what] == -1) {
                Due.no(x, call, got, Due.NOTHING);
            } else {
                Due.ok(x, call, got, due[what]);
            }
        }
    }

    private static void peak() {
        Due.promise(32);
        whats("row a 12;", "peak", 16, 1);
        whats("row a 6;", "peak", 6, 0);
        whats("row a 25;", "peak", 25, 0);
        whats("row a 138;", "peak", 77_406, 22);
        whats("row a 1;", "peak", 1, 0);
        whats("row a 999999999;bound 1;", "peak", 999_999_999, 0);
        wrongs("peak", 1);
    }

    private static void climb() {
        Due.promise(33);
        whats("row a 12;", "climb", 2, 0);
        whats("row a 6;", "climb", 1, 0);
        whats("row a 25;", "climb", 1, 0);
        whats("row a 138;", "climb", 23, 0);
        whats("row a 562;", "climb", 1, 0);
        whats("row a 220;", "climb", 2, 0);
        // 34, 20, 22, 14, 10, 8, 7, 1, 0; and two CLIMBS as long as each other, of which the first one tells.
        whats("row a 34;", "climb", 2, 1);
        whats("row a 1264460;bound 9999999;", "climb", 3, 0);
        wrongs("climb", 1);
    }

    private static void total() {
        Due.promise(34);
        whats("row a 12;", "total", 60, 4, 1);
        whats("row a 6;", "total", 6, 0, 0);
        whats("row a 1;", "total", 1, 1, 0);
        whats("row a 2;", "total", 3, 1, 1);
        whats("row a 34;", "total", 116, 2, 1);
        whats("law reduced;row a 8;", "total", 19, 1, 1);
        wrongs("total", 2);
        SumWalker x = Due.desk("bound 999999999;steps 3;row a 999999998;");
        long all = 0;
        for (int k = 0; k < x.value(0, -1); k++) {
            all += x.value(0, k);
        }
        Due.ok(x, "total(0, 0)", x.total(0, 0), all);
        // More than an int holds.
        SumWalker y = Due.desk("bound 999999999;steps 100;row a 138;");
        Due.ok(y, "total(0, 0) of 138", y.total(0, 0), 4_535_047_954L);
    }

    private static void growth() {
        Due.promise(35);
        SumWalker x = Due.desk(SIX);
        int[] due = {1333, 937, 600, 444, 750, 333, 0};
        for (int k = 0; k < 7; k++) {
            Due.ok(x, "growth(0, " + k + ")", x.growth(0, k), due[k]);
        }
        Due.no(x, "growth(0, 7)", x.growth(0, 7), Due.NOTHING);
        Due.no(x, "growth(1, 0)", x.growth(1, 0), Due.NOTHING);
        Due.no(x, "growth(2, 1)", x.growth(2, 1), Due.NOTHING);
        Due.no(x, "growth(3, 22)", x.growth(3, 22), Due.NOTHING);
        Due.no(x, "growth(0, MAX)", x.growth(0, Integer.MAX_VALUE), Due.NOTHING);
        Due.no(x, "growth(0, -1)", x.growth(0, -1), Due.WRONG);
        Due.no(x, "growth(9, -1): 1 ahead of 2", x.growth(9, -1), Due.WRONG);
        for (int r : NO_ROWS) {
            Due.no(x, "growth(" + r + ", 0)", x.growth(r, 0), Due.NO_ROW);
        }
        SumWalker y = Due.desk("bound 999999999;row a 300000000;");
        Due.ok(y, "growth(0, 0) of great ones", y.growth(0, 0), 1000L * y.value(0, 1) / 300_000_000);
    }

    private static void kept() {
        Due.promise(36);
        // 12: GUIDES 4, 16, none, none, 4, none, none, none; no DRIVER.
        whats("row a 12;", "kept", 0, 0, -1, 1);
        whats("row a 6;", "kept", 0, 1, 0, 1);
        whats("row a 25;", "kept", 0, 1, 1, 1);
        whats("row a 1;", "kept", 0, 0, -1, 0);
        // 34, 20, 22, 14, 10, 8, 7, 1, 0: GUIDES 2, 4, 2, 2, 2, 8, none, none, none.
        whats("row a 34;", "kept", 2, 4, 0, 3);
        whats("row a 562;", "kept", 1, 1, 0, 2);
        whats("law reduced;row a 2;", "kept", 0, 1, 0, 1);
        wrongs("kept", 3);
    }

    private static void guides() {
        Due.promise(37);
        whats("row a 12;", "guides", 2, 4, 2);
        whats("row a 1;", "guides", 0, -1, -1);
        whats("row a 34;", "guides", 3, 2, 4);
        // 8 and 6, then 5: of several GUIDES with as many PLACES the least.
        whats("law reduced;row a 8;", "guides", 2, 6, 1);
        whats("law reduced;row a 50;steps 1;", "guides", 2, 2, 1);
        whats("row a 28;", "guides", 1, 28, 1);
        // A less one that fewer PLACES have: 30, 42, 54, 66, 78, 90, then 144 and 4.
        whats("row a 30;", "guides", 3, 6, 6);
        whats("law unitary;row a 88;", "guides", 3, 8, 2);
        wrongs("guides", 2);
    }

    private static void splits() {
        Due.promise(38);
        SumWalker x = Due.desk("row a 12;row b 30;row c 1;row d 6;row e 2;");
        // Unitary: 12, 8, 1, 0. Reduced: 12, 15, 8, 6, 5, 0. Bare: 12.
        int[][] due = {{1, 4, 0, 0}, {1, 6, 0, 0}, {1, 1, 1, 12}};
        for (int law = 1; law < 4; law++) {
            for (int what = 0; what < 4; what++) {
                Due.ok(x, "splits(0, " + law + ", " + what + ")", x.splits(0, law, what), due[law - 1][what]);
            }
        }
        // 30, 42, 54, then 66 by plain, but 30 again by unitary.
        Due.ok(x, "splits(1, 1, 0)", x.splits(1, 1, 0), 3);
        Due.ok(x, "splits(1, 1, 1)", x.splits(1, 1, 1), 3);
        Due.ok(x, "splits(1, 1, 2)", x.splits(1, 1, 2), 1);
        Due.ok(x, "splits(1, 1, 3)", x.splits(1, 1, 3), 54);
        Due.no(x, "splits(2, 1, 0)", x.splits(2, 1, 0), Due.NOTHING);
        Due.ok(x, "splits(2, 1, 1)", x.splits(2, 1, 1), 2);
        Due.ok(x, "splits(2, 2, 2)", x.splits(2, 2, 2), 0);
        Due.ok(x, "splits(2, 3, 3)", x.splits(2, 3, 3), 0);
        Due.no(x, "splits(3, 3, 0)", x.splits(3, 3, 0), Due.NOTHING);
        Due.ok(x, "splits(3, 2, 0)", x.splits(3, 2, 0), 1);
        Due.ok(x, "splits(4, 2, 1)", x.splits(4, 2, 1), 2);
        Due.ok(x, "splits(4, 2, 0)", x.splits(4, 2, 0), 1);
        // The ROW itself stays as it is told.
        Due.ok(x, "value(0, 1)", x.value(0, 1), 16);
        x.rule(1, 2);
        Due.ok(x, "splits(0, 2, 1) by STEPS", x.splits(0, 2, 1), 3);
        Due.ok(x, "splits(0, 2, 2) by STEPS", x.splits(0, 2, 2), 3);
        x.rule(0, 14);
        Due.ok(x, "splits(0, 2, 2) by BOUND", x.splits(0, 2, 2), 2);
        Due.no(x, "splits(0, 2, 0): both 12 alone", x.splits(0, 2, 0), Due.NOTHING);
        x.rule(2, 2);
        Due.no(x, "splits(0, 2, 0)", x.splits(0, 2, 0), Due.ALREADY);
        Due.ok(x, "splits(0, 0, 1)", x.splits(0, 0, 1), 1);
        Due.no(x, "splits(0, 4, 0)", x.splits(0, 4, 0), Due.WRONG);
        Due.no(x, "splits(0, -1, 0)", x.splits(0, -1, 0), Due.WRONG);
        Due.no(x, "splits(0, 1, 4)", x.splits(0, 1, 4), Due.WRONG);
        Due.no(x, "splits(0, 1, -1)", x.splits(0, 1, -1), Due.WRONG);
        Due.no(x, "splits(9, 4, 0): 1 ahead of 2", x.splits(9, 4, 0), Due.WRONG);
        Due.no(x, "splits(5, 2, 0): 2 ahead of 4", x.splits(5, 2, 0), Due.NO_ROW);
        for (int r : NO_ROWS) {
            Due.no(x, "splits(" + r + ", 1, 0)", x.splits(r, 1, 0), Due.NO_ROW);
        }
    }

    private static void lost() {
        Due.promise(39);
        SumWalker x = Due.desk("row a 34;row b 12;row c 6;row d 276;");
        // GUIDES 2, 4, 2, 2, 2, 8, none.
        int[] due = {1, 1, 0, 0, 1, 0, 0, 0};
        for (int k = 1; k <= 8; k++) {
            Due.ok(x, "lost(0, " + k + ")", x.lost(0, k), due[k - 1]);
        }
        Due.ok(x, "lost(1, 1)", x.lost(1, 1), 1);
        Due.ok(x, "lost(1, 4): an odd one is ahead", x.lost(1, 4), 0);
        Due.no(x, "lost(0, 9)", x.lost(0, 9), Due.NOTHING);
        Due.no(x, "lost(2, 1)", x.lost(2, 1), Due.NOTHING);
        Due.no(x, "lost(0, MAX)", x.lost(0, Integer.MAX_VALUE), Due.NOTHING);
        Due.no(x, "lost(0, 0)", x.lost(0, 0), Due.WRONG);
        Due.no(x, "lost(9, 0): 1 ahead of 2", x.lost(9, 0), Due.WRONG);
        for (int r : NO_ROWS) {
            Due.no(x, "lost(" + r + ", 1)", x.lost(r, 1), Due.NO_ROW);
        }
        SumWalker y = Due.desk("law reduced;row a 2;row b 50;row c 200;");
        Due.ok(y, "lost(0, 1): a VALUE 0 has no GUIDE", y.lost(0, 1), 0);
        Due.ok(y, "lost(1, 1): 50 to 42, 2 to 6", y.lost(1, 1), 2);
        Due.ok(y, "lost(2, 1): 200 to 264, 40 to 24", y.lost(2, 1), 2);
        // Unitary: 220, 140, 100, 30, 42: GUIDES 4, 28, 4, 6, 6.
        SumWalker z = Due.desk("law unitary;row a 220;row b 92;");
        Due.ok(z, "lost(0, 1)", z.lost(0, 1), 2);
        Due.ok(z, "lost(0, 2)", z.lost(0, 2), 2);
        Due.ok(z, "lost(0, 3)", z.lost(0, 3), 1);
        Due.ok(z, "lost(0, 4)", z.lost(0, 4), 0);
        Due.ok(z, "lost(1, 1): 92 to 28", z.lost(1, 1), 2);
    }

    private static void pairWrongs(String name, int lastWhat) {
        SumWalker x = Due.desk("row a 12;row b 6;");
        Due.no(x, name + " what one too far", askPair(x, name, 0, 1, lastWhat + 1), Due.WRONG);
        Due.no(x, name + " what -1", askPair(x, name, 0, 1, -1), Due.WRONG);
        Due.no(x, name + " what -1: 1 ahead of 2", askPair(x, name, 0, 9, -1), Due.WRONG);
        Due.no(x, name + " itself", askPair(x, name, 1, 1, 0), Due.ALREADY);
        Due.no(x, name + " what -1: 1 ahead of 4", askPair(x, name, 1, 1, -1), Due.WRONG);
        Due.no(x, name + " 2 ahead of 4", askPair(x, name, 2, 2, 0), Due.NO_ROW);
        Due.no(x, name + " second one past all", askPair(x, name, 1, 2, 0), Due.NO_ROW);
        for (int r : NO_ROWS) {
            Due.no(x, name + " first " + r, askPair(x, name, r, 0, 0), Due.NO_ROW);
            Due.no(x, name + " second " + r, askPair(x, name, 0, r, 0), Due.NO_ROW);
        }
    }

    private static long askPair(SumWalker x, String name, int r, int other, int what) {
        return name.equals("duel") ? x.duel(r, other, what) : x.meets(r, other, what);
    }

    private static void duel() {
        Due.promise(40);
        SumWalker x = Due.desk("row a 12;row b 34;row c 6;row d 14;row e 12;row f 562;");
        // 12 16 15 9 4 3 1 0; 34 20 22 14 10 8 7 1 0; 6; 14 10 8 7 1 0; 562 284 220.
        pair(x, "duel", 0, 1, 0, 8, 0, 7);
        pair(x, "duel", 1, 0, 8, 0, 0, 7);
        pair(x, "duel", 0, 2, 1, 0, 0, 0);
        pair(x, "duel", 0, 3, 5, 1, 1, 5);
        pair(x, "duel", 3, 0, 1, 5, 1, 5);
        pair(x, "duel", 0, 4, 0, 0, 0, 7);
        pair(x, "duel", 5, 0, 3, 0, 0, 2);
        // 10 8 7 1 0; 9 4 3 1 0; 16 15 9 4 3 1 0; 18 21 11 1 0; 21 11 1 0.
        SumWalker y = Due.desk("row a 10;row b 9;row c 16;row d 18;row e 21;");
        pair(y, "duel", 0, 1, 3, 0, 0, 4);
        pair(y, "duel", 2, 3, 2, 3, 1, 4);
        pair(y, "duel", 2, 4, 3, 1, 1, 3);
        // 15 9 4 3 1 0 and 16 15 9 4 3 1.
        SumWalker z = Due.desk("steps 5;row a 15;row b 16;");
        pair(z, "duel", 0, 1, 0, 6, 0, 5);
        z.retell(1, 14);
        // 15 9 4 3 1 0 and 14 10 8 7 1 0: the first one, three times the other one, then twice neither.
        pair(z, "duel", 0, 1, 1, 3, 1, 5);
        pairWrongs("duel", 3);
    }

    private static void pair(SumWalker x, String name, int r, int other, int... due) {
        for (int what = 0; what < due.length; what++) {
            String call = name + "(" + r + ", " + other + ", " + what + ")";
            long got = askPair(x, name, r, other, what);
            if (due[what] == -1) {
                Due.no(x, call, got, Due.NOTHING);
            } else {
                Due.ok(x, call, got, due[what]);
            }
        }
    }

    private static void meets() {
        Due.promise(41);
        SumWalker x = Due.desk("row a 12;row b 34;row c 6;row d 14;row e 25;row f 562;");
        // 12 16 15 9 4 3 1 0 and 34 20 22 14 10 8 7 1 0: 1.
        pair(x, "meets", 0, 1, 1, 6, 7);
        pair(x, "meets", 1, 0, 1, 7, 6);
        pair(x, "meets", 1, 3, 14, 3, 0);
        pair(x, "meets", 3, 1, 14, 0, 3);
        pair(x, "meets", 2, 4, 6, 0, 1);
        pair(x, "meets", 4, 2, 6, 1, 0);
        pair(x, "meets", 0, 2, -1, -1, -1);
        pair(x, "meets", 5, 0, -1, -1, -1);
        // Reduced: 2 0 and 3 0 MEET at the VALUE 0 alone.
        SumWalker y = Due.desk("law reduced;row a 2;row b 15;row c 2;");
        pair(y, "meets", 0, 1, 0, 1, 4);
        pair(y, "meets", 0, 2, 2, 0, 0);
        pairWrongs("meets", 2);
    }

    private static void alike() {
        Due.promise(42);
        SumWalker x = Due.desk(SIX);
        int[] due = {0b100001, 0b110, 0b110, 0b1000, 0b10000, 0b100001};
        for (int r = 0; r < 6; r++) {
            Due.ok(x, "alike(" + r + ")", x.alike(r), due[r]);
        }
        // ROUNDS that begin elsewhere have the same VALUES; those with others are unlike.
        SumWalker y = Due.desk("row a 220;row b 284;row c 562;row d 1184;row e 28;row f 6;");
        int[] rounds = {0b111, 0b111, 0b111, 0b1000, 0b10000, 0b100000};
        for (int r = 0; r < 6; r++) {
            Due.ok(y, "alike(" + r + ")", y.alike(r), rounds[r]);
        }
        y.rule(0, 250);
        // 220 goes BEYOND now; 284 and 562 to ROUND and BEYOND; 1184 BEYOND.
        Due.ok(y, "alike(0) BEYOND", y.alike(0), 0b1101);
        Due.ok(y, "alike(1) ROUND", y.alike(1), 0b10);
        SumWalker z = Due.desk("steps 1;row a 12;row b 562;row c 1;row d 34;");
        Due.ok(z, "alike(0) LONG", z.alike(0), 0b1011);
        Due.ok(z, "alike(2)", z.alike(2), 0b100);
        for (int r : NO_ROWS) {
            Due.no(x, "alike(" + r + ")", x.alike(r), Due.NO_ROW);
        }
    }
}
