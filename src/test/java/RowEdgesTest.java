/** Promises 28 to 42, sentence by sentence: first and last PLACES and ROWS, none and all of them. */
public final class RowEdgesTest {
    private static final int TOP = 999_999_999;
    private static final int NONE = SumWalker.NONE;
    private static final String[] NAMES = {"a", "b", "c", "d", "e", "f"};

    public static void main(String[] args) {
        row();
        value();
        ends();
        round();
        peak();
        climb();
        total();
        growth();
        kept();
        guides();
        splits();
        lost();
        meets();
        alike();
        Due.end();
    }

    private static SumWalker rows(String rules, int... starts) {
        StringBuilder text = new StringBuilder(rules);
        for (int r = 0; r < starts.length; r++) {
            text.append("row ").append(NAMES[r]).append(' ').append(starts[r]).append(';');
        }
        return Due.desk(text.toString());
    }

    private static void row() {
        Due.promise(28);
        Due.sentence("The number from which a ROW goes");
        SumWalker x = rows("bound 1;", 1, TOP, 2, 1, TOP, 3);
        int[] due = {1, TOP, 2, 1, TOP, 3};
        for (int r = 0; r < 6; r++) {
            Due.ok(x, "row(" + r + ")", x.row(r), due[r]);
        }
    }

    private static void value() {
        Due.promise(29);
        Due.sentence("The VALUE of a ROW at a PLACE, or (k NONE) how many VALUES it has");
        SumWalker x = rows("", 6, 1, 12);
        Due.ok(x, "value(0, NONE): one alone", x.value(0, NONE), 1);
        Due.ok(x, "value(0, 0)", x.value(0, 0), 6);
        Due.no(x, "value(0, 1)", x.value(0, 1), Due.NOTHING);
        Due.ok(x, "value(1, 1): a VALUE 0", x.value(1, 1), 0);
        Due.no(x, "value(1, 2)", x.value(1, 2), Due.NOTHING);
        Due.ok(x, "value(2, 0): the first PLACE", x.value(2, 0), 12);
        Due.ok(x, "value(2, 7): the last PLACE", x.value(2, 7), 0);
        Due.no(x, "value(2, 8)", x.value(2, 8), Due.NOTHING);
        Due.no(x, "value(2, -2)", x.value(2, -2), Due.WRONG);
        SumWalker y = rows("steps 100;bound 999999999;", 138);
        Due.ok(y, "value(0, NONE): as many as there may be", y.value(0, NONE), 101);
        Due.ok(y, "value(0, 100) by value(0, 99)", y.value(0, 100), y.sum(y.value(0, 99)));
        Due.no(y, "value(0, 101)", y.value(0, 101), Due.NOTHING);
    }

    private static void ends() {
        Due.promise(30);
        Due.sentence("How a ROW ENDS");
        SumWalker x = rows("steps 3;bound 300;", 2, 6, 276, 12, 1, TOP);
        int[] due = {0, 1, 2, 3, 0, 2};
        for (int r = 0; r < 6; r++) {
            Due.ok(x, "ends(" + r + ")", x.ends(r), due[r]);
        }
    }

    private static void round() {
        Due.promise(31);
        Due.sentence("the PLACE where it begins, how many VALUES, the least of them");
        // A ROUND of the last VALUE alone, of all VALUES, and one whose least is not its first.
        all(rows("", 119), "round", 2, 1, 6);
        all(rows("", 284), "round", 0, 2, 220);
        all(rows("", 562), "round", 1, 2, 220);
        all(rows("bound 999999;", 14_288), "round", 0, 5, 12_496);
        Due.sentence("5: it ENDS otherwise");
        all(rows("", 12), "round", NONE, NONE, NONE);
        all(rows("bound 1;", 12), "round", NONE, NONE, NONE);
        all(rows("steps 1;", 12), "round", NONE, NONE, NONE);
    }

    private static long ask(SumWalker x, String name, int what) {
        switch (name) {
            case "round": return x.round(0, what);
            case "peak": return x.peak(0, what);
            case "climb": return x.climb(0, what);
            case "total": return x.total(0, what);
            case "kept": return x.kept(0, what);
            case "guides": return x.guides(0, what);
            default: return x.meets(0, 1, what);
        }
    }

    /** Of ROW 0, what 0 and on; NONE where there is none. */
    private static void all(SumWalker x, String name, long... due) {
        String of = name + "(0, of " + x.row(0) + ", ";
        for (int what = 0; what < due.length; what++) {
            long got = ask(x, name, what);
            if (due[what] == NONE) {
                Due.no(x, of + what + ")", got, Due.NOTHING);
            } else {
                Due.ok(x, of + what + ")", got, due[what]);
            }
        }
    }

    private static void peak() {
        Due.promise(32);
        Due.sentence("The greatest VALUE of a ROW, its first PLACE");
        all(rows("", 1), "peak", 1, 0);
        all(rows("", 25), "peak", 25, 0);
        all(rows("", 12), "peak", 16, 1);
        all(rows("steps 1;", 12), "peak", 16, 1);
        all(rows("bound 1;", TOP), "peak", TOP, 0);
        all(rows("bound 999999999;", 930_793_204), "peak", 999_728_396, 1);
    }

    private static void climb() {
        Due.promise(33);
        Due.sentence("how many VALUES, its first PLACE, of several the first");
        all(rows("", 1), "climb", 1, 0);
        all(rows("", 6), "climb", 1, 0);
        all(rows("", 8), "climb", 1, 0);
        all(rows("", 34), "climb", 2, 1);
        all(rows("", 96), "climb", 3, 0);
        all(rows("", 121), "climb", 2, 1);
        all(rows("steps 2;", 121), "climb", 2, 1);
        all(rows("bound 99999;", 138), "climb", 23, 0);
    }

    private static void total() {
        Due.promise(34);
        Due.sentence("All VALUES of a ROW added, how many of them are odd, how many are primes");
        all(rows("", 1), "total", 1, 1, 0);
        all(rows("", 2), "total", 3, 1, 1);
        all(rows("", 6), "total", 6, 0, 0);
        all(rows("", 3), "total", 4, 2, 1);
        all(rows("law reduced;", 2), "total", 2, 0, 1);
        all(rows("bound 1;", 999_999_937), "total", 999_999_938, 2, 1);
        all(rows("bound 1;", 999_002_449), "total", 999_002_449, 1, 0);
        all(rows("bound 999999999;", 930_793_204), "total", 1_930_521_600, 0, 0);
        all(rows("bound 999999999;steps 100;", 138), "total", 4_535_047_954L);
    }

    private static void growth() {
        Due.promise(35);
        Due.sentence("5: no next one in the ROW");
        SumWalker x = rows("", 12, 6, 1);
        Due.ok(x, "growth(0, 0): the first PLACE", x.growth(0, 0), 1333);
        Due.ok(x, "growth(0, 6): the last but one", x.growth(0, 6), 0);
        Due.no(x, "growth(0, 7): the last PLACE", x.growth(0, 7), Due.NOTHING);
        Due.no(x, "growth(0, 8)", x.growth(0, 8), Due.NOTHING);
        Due.no(x, "growth(1, 0): one VALUE alone", x.growth(1, 0), Due.NOTHING);
        Due.ok(x, "growth(2, 0)", x.growth(2, 0), 0);
        SumWalker y = rows("bound 15;", 12, 220);
        Due.no(y, "growth(0, 0): the next one is not in the ROW", y.growth(0, 0), Due.NOTHING);
        Due.no(y, "growth(1, 0)", y.growth(1, 0), Due.NOTHING);
    }

    private static void kept() {
        Due.promise(36);
        Due.sentence("how many PLACES have a GUIDE that is that of the PLACE ahead, with a DRIVER, the first PLACE with a "
            + "DRIVER (5: none), the longest spell of one and the same GUIDE");
        all(rows("", 1), "kept", 0, 0, NONE, 0);
        all(rows("", 3), "kept", 0, 0, NONE, 0);
        all(rows("", 2), "kept", 0, 1, 0, 1);
        all(rows("", 4), "kept", 0, 0, NONE, 1);
        // The last PLACE alone has a DRIVER.
        all(rows("", 119), "kept", 0, 1, 2, 1);
        // GUIDES 4 2 2 2 8: a spell between others.
        all(rows("", 20), "kept", 2, 3, 1, 3);
        // GUIDES none 4 16 none none 4: the same one again isn't kept.
        all(rows("", 121), "kept", 0, 0, NONE, 1);
        // GUIDES 2 2 8: a spell at the first PLACE; 96 4 4 8 16 28: the DRIVER comes last.
        all(rows("", 14), "kept", 1, 2, 0, 2);
        all(rows("", 96), "kept", 1, 1, 5, 2);
        // A spell up to the last PLACE.
        all(rows("law unitary;", 220), "kept", 2, 4, 1, 3);
        all(rows("law unitary;", 90), "kept", 0, 1, 0, 1);
    }

    private static void guides() {
        Due.promise(37);
        Due.sentence("how many unlike ones, the one that most PLACES have, of several the least, how many have it; 5 of 1, "
            + "2: none");
        all(rows("", 1), "guides", 0, NONE, NONE);
        all(rows("", 3), "guides", 0, NONE, NONE);
        all(rows("", 2), "guides", 1, 2, 1);
        all(rows("", 40), "guides", 2, 2, 1);
        all(rows("", 10), "guides", 2, 2, 1);
        all(rows("", 121), "guides", 2, 4, 2);
        all(rows("", 96), "guides", 5, 4, 2);
        all(rows("bound 1;", 536_870_912), "guides", 1, 536_870_912, 1);
        all(rows("law unitary;", 48), "guides", 4, 2, 1);
    }

    private static void splits() {
        Due.promise(38);
        Due.sentence("the first PLACE where they have unlike VALUES, or one has none any more");
        // By plain 6 alone; by unitary, bare alone, too; by reduced 6 5 0.
        SumWalker x = rows("", 6, 1, 30, 25);
        split(x, 0, 1, NONE, 1, 1, 6);
        split(x, 0, 2, 1, 3, 0, 0);
        split(x, 0, 3, NONE, 1, 1, 6);
        split(x, 1, 1, NONE, 2, 0, 0);
        split(x, 1, 2, NONE, 2, 0, 0);
        split(x, 1, 3, NONE, 2, 0, 0);
        // 30 42 54 66 and on by plain, 30 42 54 by unitary; 25 6 and 25 1 0.
        split(x, 2, 1, 3, 3, 1, 54);
        split(x, 3, 1, 1, 3, 0, 0);
        SumWalker y = rows("law unitary;", 30);
        split(y, 0, 0, 3, 16, 0, 0);
        // The ROW has more, or the other one, by STEPS and BOUND.
        SumWalker z = rows("bound 60;", 30);
        split(z, 0, 1, NONE, 3, 1, 54);
        Due.ok(z, "ends(0)", z.ends(0), 2);
        SumWalker v = rows("steps 2;", 30);
        split(v, 0, 1, NONE, 3, 3, 54);
        SumWalker w = rows("steps 3;", 30);
        split(w, 0, 1, 3, 3, 1, 54);
        SumWalker u = rows("bound 1;", TOP);
        split(u, 0, 1, NONE, 1, 2, TOP);
    }

    private static void split(SumWalker x, int r, int law, int... due) {
        for (int what = 0; what < 4; what++) {
            String call = "splits(" + r + ", " + law + ", " + what + ")";
            if (due[what] == NONE) {
                Due.no(x, call, x.splits(r, law, what), Due.NOTHING);
            } else {
                Due.ok(x, call, x.splits(r, law, what), due[what]);
            }
        }
    }

    private static void lost() {
        Due.promise(39);
        Due.sentence("LOST at a PLACE of a ROW: 1: k below 1; 5: the ROW has not so many PLACES");
        SumWalker x = rows("", 220, 6, 20);
        Due.no(x, "lost(0, 0)", x.lost(0, 0), Due.WRONG);
        Due.no(x, "lost(0, NONE)", x.lost(0, NONE), Due.WRONG);
        Due.ok(x, "lost(0, 1): the last PLACE", x.lost(0, 1), 0);
        Due.no(x, "lost(0, 2)", x.lost(0, 2), Due.NOTHING);
        Due.no(x, "lost(1, 1): one PLACE alone", x.lost(1, 1), Due.NOTHING);
        // 20 22 14 10 8 7 1 0: GUIDES 4 2 2 2 8.
        int[] due = {1, 0, 0, 1, 0, 0, 0};
        for (int k = 1; k <= 7; k++) {
            Due.ok(x, "lost(2, " + k + ")", x.lost(2, k), due[k - 1]);
        }
        Due.no(x, "lost(2, 8)", x.lost(2, 8), Due.NOTHING);
    }

    private static void meets() {
        Due.promise(41);
        Due.sentence("the first VALUE of the first one that the other one has, too, its PLACE, its PLACE in the other one; "
            + "5: none");
        all(rows("", 12, 12), "meets", 12, 0, 0);
        all(rows("", 220, 284), "meets", 220, 0, 1);
        all(rows("", 284, 562), "meets", 284, 0, 1);
        all(rows("", 6, 119), "meets", 6, 0, 2);
        all(rows("", 119, 6), "meets", 6, 2, 0);
        all(rows("law reduced;", 2, 3), "meets", 0, 1, 1);
        all(rows("law reduced;", 2, 8), "meets", 0, 1, 3);
        all(rows("", 1, 12), "meets", 1, 0, 6);
        all(rows("", 6, 28), "meets", NONE, NONE, NONE);
        all(rows("", 6, 220), "meets", NONE, NONE, NONE);
        all(rows("steps 1;", 12, 15), "meets", NONE, NONE, NONE);
        all(rows("steps 2;", 12, 15), "meets", 15, 2, 0);
    }

    private static void alikes(SumWalker x, int... due) {
        for (int r = 0; r < due.length; r++) {
            Due.ok(x, "alike(" + r + ")", x.alike(r), due[r]);
        }
    }

    private static void alike() {
        Due.promise(42);
        Due.sentence("ROWS that END as a ROW does: both in NOUGHT, in BEYOND, in LONG, or both in a ROUND with the same "
            + "VALUES, as bits (itself, too)");
        alikes(rows("", 12), 1);
        alikes(rows("", 6), 1);
        alikes(rows("bound 1;", 12), 1);
        alikes(rows("steps 1;", 12), 1);
        alikes(rows("", 1, 2, 3, 4, 5, 7), 63, 63, 63, 63, 63, 63);
        alikes(rows("bound 1;", 12, 14, 15, 16, 18, 20), 63, 63, 63, 63, 63, 63);
        alikes(rows("steps 1;", 12, 14, 15, 16, 18, 20), 63, 63, 63, 63, 63, 63);
        alikes(rows("", 6, 25, 95, 119, 143, 6), 63, 63, 63, 63, 63, 63);
        alikes(rows("", 6, 28, 496, 220, 12_496, 1184), 1, 2, 4, 8, 16, 32);
        // NOUGHT, ROUND, BEYOND, LONG, NOUGHT, another ROUND.
        alikes(rows("steps 3;bound 300;", 2, 6, 276, 12, 1, 28), 17, 2, 4, 8, 17, 32);
        SumWalker x = rows("", 12, 6, 25, 1);
        alikes(x, 0b1001, 0b110, 0b110, 0b1001);
        x.drop(0);
        alikes(x, 0b011, 0b011, 0b100);
    }
}
