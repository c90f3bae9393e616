/** Promises 43 to 50: ranges. */
public final class RangesTest {
    private static final int TOP = 999_999_999;

    public static void main(String[] args) {
        counts();
        mates();
        rings();
        rows();
        lengths();
        shapes();
        same();
        euler();
        Due.end();
    }

    private static long ask(SumWalker x, String name, int from, int to) {
        switch (name) {
            case "counts": return x.counts(from, to, 0);
            case "mates": return x.mates(from, to, -1, 0);
            case "rings": return x.rings(from, to, 1, -1);
            case "rows": return x.rows(from, to, 0);
            case "lengths": return x.lengths(from, to, 1);
            default: return x.shapes(from, to, 0);
        }
    }

    private static void ranges(String name, int apart) {
        SumWalker x = new SumWalker();
        int[][] bad = {{0, 5}, {-3, 5}, {5, 4}, {1, apart + 2}, {1, Integer.MAX_VALUE}, {Integer.MIN_VALUE, 5},
            {TOP, TOP + 1}, {5, 0}, {5, -5}, {TOP + 1, TOP + 1}};
        for (int[] one : bad) {
            Due.no(x, name + " from " + one[0] + " to " + one[1], ask(x, name, one[0], one[1]), Due.WRONG);
        }
        int[][] good = {{1, 1}, {TOP, TOP}, {1, apart + 1}, {TOP - apart, TOP}};
        for (int[] one : good) {
            ask(x, name, one[0], one[1]);
            Due.is(name + " from " + one[0] + " to " + one[1] + ", then status()", x.status(), 0);
        }
    }

    private static void counts() {
        Due.promise(43);
        SumWalker x = new SumWalker();
        int[] due = {23, 2, 5, 10, 10};
        for (int what = 0; what < 5; what++) {
            Due.ok(x, "counts(1, 30, " + what + ")", x.counts(1, 30, what), due[what]);
        }
        Due.ok(x, "counts(1, 501, 0)", x.counts(1, 501, 0), 377);
        Due.ok(x, "counts(1, 501, 1)", x.counts(1, 501, 1), 3);
        Due.ok(x, "counts(1, 501, 2)", x.counts(1, 501, 2), 121);
        Due.ok(x, "counts(1, 501, 3)", x.counts(1, 501, 3), 95);
        Due.ok(x, "counts(999999900, 999999999, 3)", x.counts(999_999_900, TOP, 3), 2);
        Due.ok(x, "counts(1, 1, 0)", x.counts(1, 1, 0), 1);
        Due.ok(x, "counts(1, 1, 3)", x.counts(1, 1, 3), 0);
        x.rule(2, 1);
        Due.ok(x, "counts(1, 100, 1) unitary", x.counts(1, 100, 1), 3);
        Due.ok(x, "counts(1, 30, 4) whatever LAW", x.counts(1, 30, 4), 10);
        Due.no(x, "counts(1, 30, 5)", x.counts(1, 30, 5), Due.WRONG);
        Due.no(x, "counts(1, 30, -1)", x.counts(1, 30, -1), Due.WRONG);
        ranges("counts", 500);
    }

    private static void mates() {
        Due.promise(44);
        SumWalker x = new SumWalker();
        Due.ok(x, "mates(1, 300, -1, 0)", x.mates(1, 300, -1, 0), 1);
        Due.ok(x, "mates(1, 300, -1, 1)", x.mates(1, 300, -1, 1), 1);
        Due.ok(x, "mates(220, 220, 0, 0)", x.mates(220, 220, 0, 0), 220);
        Due.ok(x, "mates(1, 300, 0, 1)", x.mates(1, 300, 0, 1), 284);
        Due.ok(x, "mates(221, 721, -1, 0): the lesser one counts", x.mates(221, 721, -1, 0), 0);
        Due.ok(x, "mates(1, 30, -1, 0): none is its own", x.mates(1, 30, -1, 0), 0);
        Due.ok(x, "mates(1000, 1210, 0, 1)", x.mates(1000, 1210, 0, 1), 1210);
        Due.ok(x, "mates(5000, 5500, 0, 1)", x.mates(5000, 5500, 0, 1), 5564);
        Due.ok(x, "mates(6000, 6500, -1, 0)", x.mates(6000, 6500, -1, 0), 1);
        Due.ok(x, "mates(66900, 67400, 1, 0)", x.mates(66_900, 67_400, 1, 0), 67_095);
        Due.ok(x, "mates(66900, 67400, 1, 1)", x.mates(66_900, 67_400, 1, 1), 71_145);
        Due.no(x, "mates(66900, 67400, 2, 0)", x.mates(66_900, 67_400, 2, 0), Due.NOTHING);
        Due.no(x, "mates(1, 300, 1, 0)", x.mates(1, 300, 1, 0), Due.NOTHING);
        x.rule(2, 1);
        Due.ok(x, "mates(1, 200, 0, 0) unitary", x.mates(1, 200, 0, 0), 114);
        Due.ok(x, "mates(1, 200, 0, 1) unitary", x.mates(1, 200, 0, 1), 126);
        x.rule(2, 2);
        Due.ok(x, "mates(1, 200, 0, 0) reduced", x.mates(1, 200, 0, 0), 48);
        Due.ok(x, "mates(1, 200, 1, 1) reduced", x.mates(1, 200, 1, 1), 195);
        Due.no(x, "mates(1, 300, -2, 0)", x.mates(1, 300, -2, 0), Due.WRONG);
        Due.no(x, "mates(1, 300, 0, 2)", x.mates(1, 300, 0, 2), Due.WRONG);
        Due.no(x, "mates(1, 300, -1, 2)", x.mates(1, 300, -1, 2), Due.WRONG);
        Due.no(x, "mates(1, 300, -1, -1)", x.mates(1, 300, -1, -1), Due.WRONG);
        ranges("mates", 500);
    }

    private static void rings() {
        Due.promise(45);
        SumWalker x = new SumWalker();
        Due.ok(x, "rings(1, 51, 1, -1)", x.rings(1, 51, 1, -1), 2);
        Due.ok(x, "rings(1, 51, 1, 0)", x.rings(1, 51, 1, 0), 6);
        Due.ok(x, "rings(1, 51, 1, 1)", x.rings(1, 51, 1, 1), 28);
        Due.no(x, "rings(1, 51, 1, 2)", x.rings(1, 51, 1, 2), Due.NOTHING);
        Due.ok(x, "rings(1, 51, 2, -1): 6 is none of two", x.rings(1, 51, 2, -1), 0);
        Due.ok(x, "rings(200, 250, 2, 0)", x.rings(200, 250, 2, 0), 220);
        Due.ok(x, "rings(250, 300, 2, -1): 284 isn't the least", x.rings(250, 300, 2, -1), 0);
        Due.ok(x, "rings(200, 250, 4, -1): not twice round", x.rings(200, 250, 4, -1), 0);
        Due.ok(x, "rings(12490, 12500, 5, 0)", x.rings(12_490, 12_500, 5, 0), 12_496);
        Due.ok(x, "rings(14310, 14320, 28, 0)", x.rings(14_310, 14_320, 28, 0), 14_316);
        Due.ok(x, "rings(14310, 14320, 27, -1)", x.rings(14_310, 14_320, 27, -1), 0);
        Due.ok(x, "rings(1264460, 1264460, 4, 0)", x.rings(1_264_460, 1_264_460, 4, 0), 1_264_460);
        Due.ok(x, "rings(999999949, 999999999, 30, -1)", x.rings(TOP - 50, TOP, 30, -1), 0);
        // Whatever BOUND and STEPS, but by LAW.
        x.rule(0, 1);
        x.rule(1, 1);
        Due.ok(x, "rings(12496, 12496, 5, -1)", x.rings(12_496, 12_496, 5, -1), 1);
        x.rule(2, 1);
        Due.ok(x, "rings(30, 30, 3, 0) unitary", x.rings(30, 30, 3, 0), 30);
        Due.ok(x, "rings(31, 60, 3, -1) unitary", x.rings(31, 60, 3, -1), 0);
        Due.no(x, "rings(1, 51, 0, -1)", x.rings(1, 51, 0, -1), Due.WRONG);
        Due.no(x, "rings(1, 51, 31, -1)", x.rings(1, 51, 31, -1), Due.WRONG);
        Due.no(x, "rings(1, 51, -1, -1)", x.rings(1, 51, -1, -1), Due.WRONG);
        Due.no(x, "rings(1, 51, 1, -2)", x.rings(1, 51, 1, -2), Due.WRONG);
        Due.ok(x, "rings(1, 51, 30, -1)", x.rings(1, 51, 30, -1), 0);
        ranges("rings", 50);
    }

    private static void rows() {
        Due.promise(46);
        SumWalker x = new SumWalker();
        int[] due = {9, 1, 0, 0, 9, 5, 10};
        for (int what = 0; what < 7; what++) {
            Due.ok(x, "rows(1, 10, " + what + ")", x.rows(1, 10, what), due[what]);
        }
        // 12 goes 12, 16, 15, 9, 4, 3, 1, 0.
        Due.ok(x, "rows(10, 12, 4)", x.rows(10, 12, 4), 12);
        Due.ok(x, "rows(10, 12, 5)", x.rows(10, 12, 5), 8);
        Due.ok(x, "rows(10, 12, 6)", x.rows(10, 12, 6), 16);
        Due.ok(x, "rows(11, 13, 4)", x.rows(11, 13, 4), 12);
        Due.ok(x, "rows(2, 3, 4): of several the least", x.rows(2, 3, 4), 2);
        Due.ok(x, "rows(6, 6, 4): one VALUE alone", x.rows(6, 6, 4), 6);
        Due.ok(x, "rows(138, 138, 2)", x.rows(138, 138, 2), 1);
        x.rule(1, 1);
        Due.ok(x, "rows(1, 10, 3)", x.rows(1, 10, 3), 8);
        Due.ok(x, "rows(1, 10, 0)", x.rows(1, 10, 0), 1);
        x.rule(0, 10);
        Due.ok(x, "rows(10, 20, 2)", x.rows(10, 20, 2), 4);
        Due.ok(x, "rows(10, 20, 6): first VALUES, too", x.rows(10, 20, 6), 20);
        x.rule(2, 2);
        Due.ok(x, "rows(1, 10, 0) reduced", x.rows(1, 10, 0), 5);
        Due.no(x, "rows(1, 10, 7)", x.rows(1, 10, 7), Due.WRONG);
        Due.no(x, "rows(1, 10, -1)", x.rows(1, 10, -1), Due.WRONG);
        ranges("rows", 50);
    }

    private static void lengths() {
        Due.promise(47);
        SumWalker x = new SumWalker();
        // 1: 2; 2, 3, 5, 7: 3; 4: 4; 6: 1; 8: 4; 9: 5; 10: 5.
        int[] due = {1, 1, 4, 2, 2, 0};
        for (int many = 1; many <= 6; many++) {
            Due.ok(x, "lengths(1, 10, " + many + ")", x.lengths(1, 10, many), due[many - 1]);
        }
        Due.ok(x, "lengths(1, 51, MAX)", x.lengths(1, 51, Integer.MAX_VALUE), 0);
        x.rule(1, 1);
        Due.ok(x, "lengths(1, 10, 2) by STEPS", x.lengths(1, 10, 2), 9);
        x.rule(0, 1);
        Due.ok(x, "lengths(1, 10, 1) by BOUND", x.lengths(1, 10, 1), 5);
        x.rule(2, 2);
        Due.ok(x, "lengths(1, 10, 2) by LAW", x.lengths(1, 10, 2), 5);
        Due.no(x, "lengths(1, 10, 0)", x.lengths(1, 10, 0), Due.WRONG);
        Due.no(x, "lengths(1, 10, -1)", x.lengths(1, 10, -1), Due.WRONG);
        ranges("lengths", 50);
    }

    private static void shapes() {
        Due.promise(48);
        SumWalker x = new SumWalker();
        // none: 1; 1: 2 3 5 7; 2: 4 9; 1 1: 6 10; 3: 8; 2 1: 12.
        Due.ok(x, "shapes(1, 10, 0)", x.shapes(1, 10, 0), 5);
        Due.ok(x, "shapes(1, 10, 1)", x.shapes(1, 10, 1), 4);
        Due.ok(x, "shapes(1, 10, 2)", x.shapes(1, 10, 2), 2);
        Due.ok(x, "shapes(8, 10, 0)", x.shapes(8, 10, 0), 3);
        Due.ok(x, "shapes(8, 10, 1)", x.shapes(8, 10, 1), 1);
        Due.ok(x, "shapes(8, 10, 2): of several the least", x.shapes(8, 10, 2), 8);
        Due.ok(x, "shapes(4, 10, 2): 4 9, 5 7, 6 10", x.shapes(4, 10, 2), 4);
        Due.ok(x, "shapes(1, 201, 1)", x.shapes(1, 201, 1), 57);
        Due.ok(x, "shapes(1, 201, 2)", x.shapes(1, 201, 2), 6);
        Due.ok(x, "shapes(18, 20, 0): 18 and 20 alike", x.shapes(18, 20, 0), 2);
        Due.no(x, "shapes(1, 10, 3)", x.shapes(1, 10, 3), Due.WRONG);
        Due.no(x, "shapes(1, 10, -1)", x.shapes(1, 10, -1), Due.WRONG);
        ranges("shapes", 200);
    }

    private static void same() {
        Due.promise(49);
        SumWalker x = new SumWalker();
        int[][] alike = {{1, 1}, {2, 999_999_937}, {12, 18}, {12, 999_950}, {30, 42}, {360, 600}, {4, 999_002_449},
            {72, 108}, {735_134_400, 735_134_400}};
        for (int[] one : alike) {
            boolean due = Model.primesOf(one[0]).values().stream().sorted().toList()
                .equals(Model.primesOf(one[1]).values().stream().sorted().toList());
            Due.ok(x, "same(" + one[0] + ", " + one[1] + ")", x.same(one[0], one[1]), due ? 1 : 0);
            Due.ok(x, "same(" + one[1] + ", " + one[0] + ")", x.same(one[1], one[0]), due ? 1 : 0);
        }
        Due.ok(x, "same(12, 18)", x.same(12, 18), 1);
        Due.ok(x, "same(12, 75)", x.same(12, 75), 1);
        int[][] unlike = {{1, 2}, {12, 36}, {4, 6}, {8, 12}, {30, 60}, {64, 96}, {36, 72}};
        for (int[] one : unlike) {
            Due.ok(x, "same(" + one[0] + ", " + one[1] + ")", x.same(one[0], one[1]), 0);
        }
        for (int n : new int[] {0, -1, TOP + 1, Integer.MIN_VALUE, Integer.MAX_VALUE}) {
            Due.no(x, "same(" + n + ", 6)", x.same(n, 6), Due.WRONG);
            Due.no(x, "same(6, " + n + ")", x.same(6, n), Due.WRONG);
        }
    }

    private static void euler() {
        Due.promise(50);
        SumWalker x = new SumWalker();
        long[][] due = {
            {2, 1, 1, 5, 11, 71, 220, 284}, {4, 3, 1, 23, 47, 1151, 17_296, 18_416},
            {7, 6, 1, 191, 383, 73_727, 9_363_584, 9_437_056}, {8, 1, 1, 257, 33_023, 8_520_191, 2_172_649_216L,
                2_181_168_896L}
        };
        for (long[] one : due) {
            for (int what = 0; what < 6; what++) {
                Due.ok(x, "euler(" + one[0] + ", " + one[1] + ", " + what + ")",
                    x.euler((int) one[0], (int) one[1], what), one[2 + what]);
            }
        }
        int holds = 0;
        for (int k = 2; k <= 9; k++) {
            for (int m = 1; m < k; m++) {
                holds += (int) x.euler(k, m, 0);
            }
        }
        Due.is("how often it HOLDS", holds, 4);
        Due.ok(x, "euler(3, 2, 0)", x.euler(3, 2, 0), 0);
        Due.ok(x, "euler(3, 2, 1)", x.euler(3, 2, 1), 11);
        Due.ok(x, "euler(9, 1, 3)", x.euler(9, 1, 3), 1024L * 257 * 257 - 1);
        Due.no(x, "euler(3, 2, 4)", x.euler(3, 2, 4), Due.NOTHING);
        Due.no(x, "euler(3, 2, 5)", x.euler(3, 2, 5), Due.NOTHING);
        int[][] bad = {{1, 1}, {10, 1}, {0, 0}, {-1, 1}, {2, 2}, {2, 0}, {2, -1}, {5, 6}, {33, 1},
            {Integer.MAX_VALUE, 1}, {5, Integer.MIN_VALUE}};
        for (int[] one : bad) {
            Due.no(x, "euler(" + one[0] + ", " + one[1] + ", 0)", x.euler(one[0], one[1], 0), Due.WRONG);
        }
        Due.no(x, "euler(2, 1, 6)", x.euler(2, 1, 6), Due.WRONG);
        Due.no(x, "euler(2, 1, -1)", x.euler(2, 1, -1), Due.WRONG);
        Due.no(x, "euler(3, 2, 6): 1 ahead of 5", x.euler(3, 2, 6), Due.WRONG);
    }
}
