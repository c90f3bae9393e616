/** Promises 7 to 27: numbers. */
public final class NumbersTest {
    private static final int TOP = 999_999_999;
    private static final int[] NO_NUMBERS = {0, -1, Integer.MIN_VALUE, 1_000_000_000, Integer.MAX_VALUE};

    public static void main(String[] args) {
        factor();
        sum();
        kind();
        guide();
        divisor();
        whole();
        index();
        part();
        kin();
        kins();
        before();
        families();
        record();
        practical();
        ladder();
        mean();
        untouched();
        primitive();
        depth();
        euclid();
        touched();
        Due.end();
    }

    private static SumWalker withLaw(int law) {
        SumWalker x = new SumWalker();
        if (law != 0) {
            x.rule(2, law);
        }
        return x;
    }

    private static void factor() {
        Due.promise(7);
        SumWalker x = new SumWalker();
        Due.ok(x, "factor(1, -1, 0)", x.factor(1, -1, 0), 0);
        Due.ok(x, "factor(1, -1, 1)", x.factor(1, -1, 1), 0);
        Due.no(x, "factor(1, 0, 0)", x.factor(1, 0, 0), Due.NOTHING);
        factors(x, 2, 2, 1);
        factors(x, 536_870_912, 2, 29);
        factors(x, 387_420_489, 3, 18);
        factors(x, 360, 2, 3, 3, 2, 5, 1);
        factors(x, 223_092_870, 2, 1, 3, 1, 5, 1, 7, 1, 11, 1, 13, 1, 17, 1, 19, 1, 23, 1);
        factors(x, 735_134_400, 2, 6, 3, 3, 5, 2, 7, 1, 11, 1, 13, 1, 17, 1);
        factors(x, 994_009, 997, 2);
        factors(x, 1_005_973, 997, 1, 1009, 1);
        factors(x, 1_018_081, 1009, 2);
        factors(x, 1_022_117, 1009, 1, 1013, 1);
        factors(x, 999_950_884, 2, 2, 97, 2, 163, 2);
        // Two great primes each, that pass for one prime by 2 alone, by 2 and 7, by 2 and 61, and by 7 and 61.
        factors(x, 21_359_521, 1009, 1, 21_169, 1);
        factors(x, 2_284_453, 1069, 1, 2137, 1);
        factors(x, 932_148_253, 21_589, 1, 43_177, 1);
        factors(x, 189_714_193, 1399, 1, 135_607, 1);
        factors(x, 842_824_981, 9181, 1, 91_801, 1);
        factors(x, 5_090_821, 1303, 1, 3907, 1);
        factors(x, 932_098_133, 17_627, 1, 52_879, 1);
        factors(x, 999_002_449, 31_607, 2);
        factors(x, 997_002_999, 3, 9, 37, 3);
        factors(x, 999_999_937, 999_999_937, 1);
        factors(x, 999_999_999, 3, 4, 37, 1, 333_667, 1);
        for (int n : NO_NUMBERS) {
            Due.no(x, "factor(" + n + ", 0, 0)", x.factor(n, 0, 0), Due.WRONG);
        }
        Due.no(x, "factor(6, -2, 0)", x.factor(6, -2, 0), Due.WRONG);
        Due.no(x, "factor(6, 0, 2)", x.factor(6, 0, 2), Due.WRONG);
        Due.no(x, "factor(6, 0, -1)", x.factor(6, 0, -1), Due.WRONG);
        Due.no(x, "factor(6, -1, 2)", x.factor(6, -1, 2), Due.WRONG);
        Due.no(x, "factor(6, 9, 2): 1 ahead of 5", x.factor(6, 9, 2), Due.WRONG);
        Due.no(x, "factor(6, 2, 0)", x.factor(6, 2, 0), Due.NOTHING);
        Due.no(x, "factor(6, MAX, 1)", x.factor(6, Integer.MAX_VALUE, 1), Due.NOTHING);
    }

    /** Primes and how often, in turns. */
    private static void factors(SumWalker x, int n, int... due) {
        int many = due.length / 2;
        Due.ok(x, "factor(" + n + ", -1, 0)", x.factor(n, -1, 0), many);
        for (int i = 0; i < many; i++) {
            Due.ok(x, "factor(" + n + ", " + i + ", 0)", x.factor(n, i, 0), due[2 * i]);
            Due.ok(x, "factor(" + n + ", " + i + ", 1)", x.factor(n, i, 1), due[2 * i + 1]);
        }
        Due.no(x, "factor(" + n + ", many, 0)", x.factor(n, many, 0), Due.NOTHING);
    }

    private static void sum() {
        Due.promise(8);
        long[][] due = {
            // n, plain, unitary, reduced, bare
            {1, 0, 0, 0, 0}, {2, 1, 1, 0, 1}, {4, 3, 1, 2, 3}, {6, 6, 6, 5, 6}, {8, 7, 1, 6, 3},
            {12, 16, 8, 15, 12}, {30, 42, 42, 41, 42}, {36, 55, 14, 54, 12}, {48, 76, 20, 75, 12},
            {60, 108, 60, 107, 72}, {220, 284, 140, 283, 216}, {360, 810, 180, 809, 72},
            {TOP - 62, 1, 1, 0, 1}
        };
        for (int law = 0; law < 4; law++) {
            SumWalker x = withLaw(law);
            for (long[] one : due) {
                Due.ok(x, "sum(" + one[0] + ") by " + law, x.sum((int) one[0]), one[1 + law]);
            }
        }
        SumWalker x = new SumWalker();
        // Above what an int can hold.
        Due.ok(x, "sum(735134400)", x.sum(735_134_400), 127L * 40 * 31 * 8 * 12 * 14 * 18 - 735_134_400L);
        for (int n : NO_NUMBERS) {
            Due.no(x, "sum(" + n + ")", x.sum(n), Due.WRONG);
        }
    }

    private static void kind() {
        Due.promise(9);
        SumWalker x = new SumWalker();
        Due.ok(x, "kind(1)", x.kind(1), 0);
        Due.ok(x, "kind(28)", x.kind(28), 1);
        Due.ok(x, "kind(33550336)", x.kind(33_550_336), 1);
        Due.ok(x, "kind(945)", x.kind(945), 2);
        Due.ok(x, "kind(735134400)", x.kind(735_134_400), 2);
        Due.ok(x, "kind(999999999)", x.kind(TOP), 0);
        Due.ok(withLaw(1), "kind(60) unitary", withLaw(1).kind(60), 1);
        Due.ok(withLaw(1), "kind(28) unitary", withLaw(1).kind(28), 0);
        Due.ok(withLaw(2), "kind(6) reduced", withLaw(2).kind(6), 0);
        Due.ok(withLaw(3), "kind(12) bare", withLaw(3).kind(12), 1);
        Due.ok(withLaw(3), "kind(30) bare", withLaw(3).kind(30), 2);
        for (int n : NO_NUMBERS) {
            Due.no(x, "kind(" + n + ")", x.kind(n), Due.WRONG);
        }
    }

    private static void guide() {
        Due.promise(10);
        int[][] due = {
            // n, GUIDE, a, v, DRIVER
            {2, 2, 1, 1, 1}, {6, 6, 1, 3, 1}, {18, 6, 1, 3, 1}, {4, 4, 2, 1, 0}, {28, 28, 2, 7, 1},
            {24, 24, 3, 3, 1}, {120, 120, 3, 15, 1}, {40, 40, 3, 5, 0}, {8, 8, 3, 1, 0}, {496, 496, 4, 31, 1},
            {32, 32, 5, 1, 0}, {672, 672, 5, 21, 1}, {6048, 2016, 5, 63, 0}, {18144, 2016, 5, 63, 0},
            {523776, 523776, 9, 1023, 1}, {536870912, 536870912, 29, 1, 0}, {220, 4, 2, 1, 0}, {10, 2, 1, 1, 1}
        };
        SumWalker x = withLaw(1);
        for (int[] one : due) {
            for (int what = 0; what < 4; what++) {
                Due.ok(x, "guide(" + one[0] + ", " + what + ")", x.guide(one[0], what), one[1 + what]);
            }
        }
        Due.no(x, "guide(1, 0)", x.guide(1, 0), Due.NOTHING);
        Due.no(x, "guide(999999999, 3)", x.guide(TOP, 3), Due.NOTHING);
        Due.no(x, "guide(6, 4)", x.guide(6, 4), Due.WRONG);
        Due.no(x, "guide(6, -1)", x.guide(6, -1), Due.WRONG);
        Due.no(x, "guide(7, 4): 1 ahead of 5", x.guide(7, 4), Due.WRONG);
        for (int n : NO_NUMBERS) {
            Due.no(x, "guide(" + n + ", 0)", x.guide(n, 0), Due.WRONG);
        }
    }

    private static void divisor() {
        Due.promise(11);
        SumWalker x = withLaw(3);
        int[] of36 = {1, 2, 3, 4, 6, 9, 12, 18, 36};
        Due.ok(x, "divisor(36, -1)", x.divisor(36, -1), 9);
        for (int k = 0; k < 9; k++) {
            Due.ok(x, "divisor(36, " + k + ")", x.divisor(36, k), of36[k]);
        }
        int[] of48 = {1, 2, 3, 4, 6, 8, 12, 16, 24, 48};
        for (int k = 0; k < 10; k++) {
            Due.ok(x, "divisor(48, " + k + ")", x.divisor(48, k), of48[k]);
        }
        Due.ok(x, "divisor(1, -1)", x.divisor(1, -1), 1);
        Due.ok(x, "divisor(1, 0)", x.divisor(1, 0), 1);
        Due.ok(x, "divisor(735134400, -1)", x.divisor(735_134_400, -1), 1344);
        Due.ok(x, "divisor(735134400, 1343)", x.divisor(735_134_400, 1343), 735_134_400);
        Due.ok(x, "divisor(735134400, 1342)", x.divisor(735_134_400, 1342), 367_567_200);
        Due.ok(x, "divisor(999002449, 1)", x.divisor(999_002_449, 1), 31_607);
        Due.ok(x, "divisor(999999937, 1)", x.divisor(999_999_937, 1), 999_999_937);
        Due.no(x, "divisor(36, 9)", x.divisor(36, 9), Due.NOTHING);
        Due.no(x, "divisor(36, MAX)", x.divisor(36, Integer.MAX_VALUE), Due.NOTHING);
        Due.no(x, "divisor(36, -2)", x.divisor(36, -2), Due.WRONG);
        for (int n : NO_NUMBERS) {
            Due.no(x, "divisor(" + n + ", 0)", x.divisor(n, 0), Due.WRONG);
        }
    }

    private static void whole() {
        Due.promise(12);
        SumWalker x = withLaw(1);
        for (int n : new int[] {6, 12, 18, 20, 24, 28, 30, 36, 496, 945, 2992, 3000}) {
            Due.ok(x, "whole(" + n + ")", x.whole(n), 1);
        }
        for (int n : new int[] {70, 836}) {
            Due.ok(x, "whole(" + n + ")", x.whole(n), 2);
        }
        for (int n : new int[] {1, 2, 4, 8, 10, 14, 22, 2999}) {
            Due.ok(x, "whole(" + n + ")", x.whole(n), 0);
        }
        int weird = 0;
        for (int n = 1; n <= 3000; n++) {
            SumWalker y = withLaw(n % 4);
            weird += y.whole(n) == 2 ? 1 : 0;
        }
        Due.is("how many are WEIRD up to 3000", weird, 2);
        Due.no(x, "whole(3001)", x.whole(3001), Due.WRONG);
        for (int n : NO_NUMBERS) {
            Due.no(x, "whole(" + n + ")", x.whole(n), Due.WRONG);
        }
    }

    private static void index() {
        Due.promise(13);
        SumWalker x = withLaw(2);
        long[][] due = {{1, 1, 1}, {2, 3, 2}, {6, 2, 1}, {12, 7, 3}, {120, 3, 1}, {8, 15, 8}, {10, 9, 5},
            {999_999_937, 999_999_938, 999_999_937}, {30240, 4, 1}};
        for (long[] one : due) {
            Due.ok(x, "index(" + one[0] + ", 0)", x.index((int) one[0], 0), one[1]);
            Due.ok(x, "index(" + one[0] + ", 1)", x.index((int) one[0], 1), one[2]);
        }
        Due.no(x, "index(6, 2)", x.index(6, 2), Due.WRONG);
        Due.no(x, "index(6, -1)", x.index(6, -1), Due.WRONG);
        for (int n : NO_NUMBERS) {
            Due.no(x, "index(" + n + ", 0)", x.index(n, 0), Due.WRONG);
        }
    }

    private static void part() {
        Due.promise(14);
        SumWalker x = withLaw(1);
        Due.ok(x, "part(12, 0)", x.part(12, 0), 1750);
        Due.ok(x, "part(12, 1)", x.part(12, 1), 1333);
        Due.ok(x, "part(536870912, 0)", x.part(536_870_912, 0), 1999);
        Due.ok(x, "part(2, 0)", x.part(2, 0), 1500);
        Due.ok(x, "part(999999937, 0)", x.part(999_999_937, 0), 1000);
        Due.ok(x, "part(223092870, 8)", x.part(223_092_870, 8), 1043);
        Due.no(x, "part(12, 2)", x.part(12, 2), Due.NOTHING);
        Due.no(x, "part(1, 0)", x.part(1, 0), Due.NOTHING);
        Due.no(x, "part(12, -1)", x.part(12, -1), Due.WRONG);
        for (int n : NO_NUMBERS) {
            Due.no(x, "part(" + n + ", 9)", x.part(n, 9), Due.WRONG);
        }
    }

    private static void kin() {
        Due.promise(15);
        SumWalker x = withLaw(3);
        Due.ok(x, "kin(6, 1, 500, -1)", x.kin(6, 1, 500, -1), 2);
        Due.ok(x, "kin(6, 1, 500, 0)", x.kin(6, 1, 500, 0), 28);
        Due.ok(x, "kin(6, 1, 500, 1)", x.kin(6, 1, 500, 1), 496);
        Due.no(x, "kin(6, 1, 500, 2)", x.kin(6, 1, 500, 2), Due.NOTHING);
        Due.ok(x, "kin(8128, 6, 6, 0)", x.kin(8128, 6, 6, 0), 6);
        Due.ok(x, "kin(6, 6, 6, -1): itself not", x.kin(6, 6, 6, -1), 0);
        Due.ok(x, "kin(12, 200, 300, 0)", x.kin(12, 200, 300, 0), 234);
        Due.ok(x, "kin(735134400, 735134300, 735134500, -1)", x.kin(735_134_400, 735_134_300, 735_134_500, -1), 0);
        Due.ok(x, "kin(1, 2, 502, -1)", x.kin(1, 2, 502, -1), 0);
        ranges("kin", 500);
        Due.no(x, "kin(6, 1, 500, -2)", x.kin(6, 1, 500, -2), Due.WRONG);
        for (int n : NO_NUMBERS) {
            Due.no(x, "kin(" + n + ", 1, 500, 0)", x.kin(n, 1, 500, 0), Due.WRONG);
        }
    }

    private static long ranged(SumWalker x, String name, int from, int to) {
        return name.equals("kin") ? x.kin(1, from, to, -1) : x.kins(from, to, 0);
    }

    private static void ranges(String name, int apart) {
        SumWalker x = new SumWalker();
        int[][] bad = {{0, 5}, {-3, 5}, {5, 4}, {1, apart + 2}, {1, Integer.MAX_VALUE}, {Integer.MIN_VALUE, 5},
            {TOP, TOP + 1}, {5, 0}, {5, -5}};
        for (int[] one : bad) {
            Due.no(x, name + " from " + one[0] + " to " + one[1], ranged(x, name, one[0], one[1]), Due.WRONG);
        }
        int[][] good = {{1, 1}, {TOP, TOP}, {1, apart + 1}, {TOP - apart, TOP}};
        for (int[] one : good) {
            ranged(x, name, one[0], one[1]);
            Due.is(name + " from " + one[0] + " to " + one[1] + ", then status()", x.status(), 0);
        }
    }

    private static void kins() {
        Due.promise(16);
        SumWalker x = withLaw(1);
        Due.ok(x, "kins(1, 28, 0)", x.kins(1, 28, 0), 27);
        Due.ok(x, "kins(1, 28, 1)", x.kins(1, 28, 1), 2);
        Due.ok(x, "kins(1, 28, 2)", x.kins(1, 28, 2), 6);
        Due.ok(x, "kins(1, 5, 0)", x.kins(1, 5, 0), 5);
        Due.ok(x, "kins(1, 5, 1)", x.kins(1, 5, 1), 0);
        Due.no(x, "kins(1, 5, 2)", x.kins(1, 5, 2), Due.NOTHING);
        Due.ok(x, "kins(12, 12, 0)", x.kins(12, 12, 0), 1);
        // 30 and 140, 80 and 200, 40 and 224 (beyond), 6 and 28, 66 and 308 (beyond), 102 and 476 (beyond).
        Due.ok(x, "kins(1, 201, 1)", x.kins(1, 201, 1), 6);
        Due.ok(x, "kins(1, 201, 0)", x.kins(1, 201, 0), 198);
        Due.ok(x, "kins(29, 201, 2)", x.kins(29, 201, 2), 30);
        Due.no(x, "kins(1, 5, 3)", x.kins(1, 5, 3), Due.WRONG);
        Due.no(x, "kins(1, 5, -1)", x.kins(1, 5, -1), Due.WRONG);
        ranges("kins", 200);
    }

    private static void before() {
        Due.promise(17);
        SumWalker x = new SumWalker();
        Due.ok(x, "before(6, 30, 0): itself, too", x.before(6, 30, 0), 6);
        Due.ok(x, "before(6, 30, 1)", x.before(6, 30, 1), 25);
        Due.no(x, "before(6, 24, 1)", x.before(6, 24, 1), Due.NOTHING);
        Due.ok(x, "before(6, 25, 1)", x.before(6, 25, 1), 25);
        Due.ok(x, "before(0, 1, 0)", x.before(0, 1, 0), 1);
        Due.no(x, "before(0, 2000, 1)", x.before(0, 2000, 1), Due.NOTHING);
        Due.ok(x, "before(1, 2000, 302)", x.before(1, 2000, 302), 1999);
        Due.no(x, "before(1, 2000, 303)", x.before(1, 2000, 303), Due.NOTHING);
        Due.no(x, "before(5, 2000, 0)", x.before(5, 2000, 0), Due.NOTHING);
        Due.no(x, "before(999999999, 2000, 0)", x.before(TOP, 2000, 0), Due.NOTHING);
        SumWalker y = withLaw(2);
        Due.ok(y, "before(0, 10, 1) reduced", y.before(0, 10, 1), 2);
        Due.ok(y, "before(75, 100, 0) reduced", y.before(75, 100, 0), 48);
        Due.no(x, "before(-1, 5, 0)", x.before(-1, 5, 0), Due.WRONG);
        Due.no(x, "before(-2147483648, 5, 0)", x.before(Integer.MIN_VALUE, 5, 0), Due.WRONG);
        Due.no(x, "before(1000000000, 5, 0): no upper end", x.before(TOP + 1, 5, 0), Due.NOTHING);
        Due.no(x, "before(1046919648, 1, 0)", x.before(1_046_919_648, 1, 0), Due.NOTHING);
        Due.no(x, "before(2147483647, 2000, 5)", x.before(Integer.MAX_VALUE, 2000, 5), Due.NOTHING);
        Due.no(x, "before(1000000000, 0, 0)", x.before(TOP + 1, 0, 0), Due.WRONG);
        Due.no(x, "before(1000000000, 5, -1)", x.before(TOP + 1, 5, -1), Due.WRONG);
        Due.no(x, "before(6, 0, 0)", x.before(6, 0, 0), Due.WRONG);
        Due.no(x, "before(6, 2001, 0)", x.before(6, 2001, 0), Due.WRONG);
        Due.no(x, "before(6, 30, -1)", x.before(6, 30, -1), Due.WRONG);
        Due.no(x, "before(5, 0, 9): 1 ahead of 5", x.before(5, 0, 9), Due.WRONG);
    }

    private static void families() {
        Due.promise(18);
        SumWalker x = new SumWalker();
        int[][] due = {
            // m, how many, greatest's size, its least, alone
            {1, 1, 1, 1, 1}, {2, 1, 2, 1, 0}, {6, 2, 5, 1, 1}, {10, 2, 9, 1, 1}, {12, 3, 10, 1, 2}
        };
        for (int[] one : due) {
            for (int what = 0; what < 4; what++) {
                Due.ok(x, "families(" + one[0] + ", " + what + ")", x.families(one[0], what), one[1 + what]);
            }
        }
        Due.ok(x, "families(500, 0) goes", x.families(500, 0) > 0 ? 1 : 0, 1);
        // Reduced: 2, 3 lead nowhere; 4 to 2, 6 to 5, 8 to 6; 1 is alone, 7 is: {1} {2,4} {3,9} {5,6,8} {7,10}.
        SumWalker y = withLaw(2);
        Due.ok(y, "families(3, 0) reduced", y.families(3, 0), 3);
        Due.ok(y, "families(3, 1) reduced", y.families(3, 1), 1);
        Due.ok(y, "families(3, 2) reduced: of several the least", y.families(3, 2), 1);
        Due.ok(y, "families(10, 0) reduced", y.families(10, 0), 5);
        Due.ok(y, "families(10, 1) reduced", y.families(10, 1), 3);
        Due.ok(y, "families(10, 2) reduced", y.families(10, 2), 5);
        Due.ok(y, "families(10, 3) reduced", y.families(10, 3), 1);
        Due.ok(y, "families(4, 2) reduced", y.families(4, 2), 2);
        for (int m : new int[] {0, -1, 501, Integer.MIN_VALUE, Integer.MAX_VALUE}) {
            Due.no(x, "families(" + m + ", 0)", x.families(m, 0), Due.WRONG);
        }
        Due.no(x, "families(5, 4)", x.families(5, 4), Due.WRONG);
        Due.no(x, "families(5, -1)", x.families(5, -1), Due.WRONG);
    }

    private static void record() {
        Due.promise(19);
        SumWalker x = withLaw(3);
        int[] due = {1, 2, 4, 6, 12, 24, 36, 48, 60, 120, 180, 240, 360, 720, 840, 1260, 1680};
        Due.ok(x, "record(2000, -1)", x.record(2000, -1), due.length);
        for (int k = 0; k < due.length; k++) {
            Due.ok(x, "record(2000, " + k + ")", x.record(2000, k), due[k]);
        }
        Due.no(x, "record(2000, 17)", x.record(2000, 17), Due.NOTHING);
        Due.ok(x, "record(1, -1)", x.record(1, -1), 1);
        Due.ok(x, "record(35, -1)", x.record(35, -1), 6);
        Due.ok(x, "record(36, -1)", x.record(36, -1), 7);
        Due.no(x, "record(35, 6)", x.record(35, 6), Due.NOTHING);
        Due.no(x, "record(0, -1)", x.record(0, -1), Due.WRONG);
        Due.no(x, "record(2001, -1)", x.record(2001, -1), Due.WRONG);
        Due.no(x, "record(12, -2)", x.record(12, -2), Due.WRONG);
    }

    private static void practical() {
        Due.promise(20);
        SumWalker x = withLaw(1);
        for (int n : new int[] {1, 2, 4, 6, 8, 12, 16, 18, 20, 24, 28, 30, 78, 88, 150, 536_870_912, 735_134_400}) {
            Due.ok(x, "practical(" + n + ")", x.practical(n), 1);
        }
        for (int n : new int[] {3, 5, 9, 10, 14, 22, 26, 34, 44, 70, 102, 945, TOP}) {
            Due.ok(x, "practical(" + n + ")", x.practical(n), 0);
        }
        for (int n : NO_NUMBERS) {
            Due.no(x, "practical(" + n + ")", x.practical(n), Due.WRONG);
        }
    }

    private static void ladder() {
        Due.promise(21);
        SumWalker x = withLaw(2);
        int[] due = {60, 12, 6, 4, 3, 2};
        Due.ok(x, "ladder(60, -1)", x.ladder(60, -1), 6);
        for (int k = 0; k < 6; k++) {
            Due.ok(x, "ladder(60, " + k + ")", x.ladder(60, k), due[k]);
        }
        Due.no(x, "ladder(60, 6)", x.ladder(60, 6), Due.NOTHING);
        Due.ok(x, "ladder(1, -1)", x.ladder(1, -1), 1);
        Due.ok(x, "ladder(1, 0)", x.ladder(1, 0), 1);
        Due.no(x, "ladder(1, 1)", x.ladder(1, 1), Due.NOTHING);
        Due.ok(x, "ladder(2, 0)", x.ladder(2, 0), 2);
        Due.no(x, "ladder(2, 1)", x.ladder(2, 1), Due.NOTHING);
        Due.ok(x, "ladder(999999937, -1)", x.ladder(999_999_937, -1), 2);
        Due.ok(x, "ladder(735134400, 1)", x.ladder(735_134_400, 1), 1344);
        Due.no(x, "ladder(60, MAX)", x.ladder(60, Integer.MAX_VALUE), Due.NOTHING);
        Due.no(x, "ladder(60, -2)", x.ladder(60, -2), Due.WRONG);
        for (int n : NO_NUMBERS) {
            Due.no(x, "ladder(" + n + ", 0)", x.ladder(n, 0), Due.WRONG);
        }
    }

    private static void mean() {
        Due.promise(22);
        SumWalker x = withLaw(1);
        long[][] due = {
            // n, its mean, its harmonic one
            {1, 1, 1, 1, 1}, {6, 3, 1, 2, 1}, {12, 14, 3, 18, 7}, {4, 7, 3, 12, 7}, {28, 28, 3, 3, 1},
            {140, 28, 1, 5, 1}, {2, 3, 2, 4, 3}, {999_999_937, 499_999_969, 1, 999_999_937, 499_999_969},
            {536_870_912, 357_913_941, 10, 5_368_709_120L, 357_913_941}
        };
        for (long[] one : due) {
            int n = (int) one[0];
            Due.ok(x, "mean(" + n + ", false, 0)", x.mean(n, false, 0), one[1]);
            Due.ok(x, "mean(" + n + ", false, 1)", x.mean(n, false, 1), one[2]);
            Due.ok(x, "mean(" + n + ", true, 0)", x.mean(n, true, 0), one[3]);
            Due.ok(x, "mean(" + n + ", true, 1)", x.mean(n, true, 1), one[4]);
        }
        Due.no(x, "mean(6, true, 2)", x.mean(6, true, 2), Due.WRONG);
        Due.no(x, "mean(6, false, -1)", x.mean(6, false, -1), Due.WRONG);
        for (int n : NO_NUMBERS) {
            Due.no(x, "mean(" + n + ", true, 0)", x.mean(n, true, 0), Due.WRONG);
        }
    }

    private static void untouched() {
        Due.promise(23);
        SumWalker x = new SumWalker();
        // 98 is the SUM of 9,409 alone, 96 of none at all.
        Due.ok(x, "untouched(100, 2000, 1)", x.untouched(100, 2000, 1), 98);
        Due.ok(x, "untouched(97, 2000, 1)", x.untouched(97, 2000, 1), 96);
        Due.ok(x, "untouched(5, 2000, 0)", x.untouched(5, 2000, 0), 2);
        Due.ok(x, "untouched(5, 2000, 1)", x.untouched(5, 2000, 1), 5);
        Due.ok(x, "untouched(4, 2000, 1)", x.untouched(4, 2000, 1), 2);
        Due.ok(x, "untouched(1, 1, 0)", x.untouched(1, 1, 0), 1);
        Due.ok(x, "untouched(1, 2, 0)", x.untouched(1, 2, 0), 0);
        Due.no(x, "untouched(1, 2, 1)", x.untouched(1, 2, 1), Due.NOTHING);
        Due.ok(x, "untouched(500, 1, 0)", x.untouched(500, 1, 0), 500);
        Due.ok(x, "untouched(500, 1, 1)", x.untouched(500, 1, 1), 500);
        // Reduced, up to 6: 0, 0, 0, 2, 0, 5.
        SumWalker y = withLaw(2);
        Due.ok(y, "untouched(6, 6, 0) reduced", y.untouched(6, 6, 0), 4);
        Due.ok(y, "untouched(6, 6, 1) reduced", y.untouched(6, 6, 1), 6);
        Due.no(x, "untouched(0, 5, 0)", x.untouched(0, 5, 0), Due.WRONG);
        Due.no(x, "untouched(501, 5, 0)", x.untouched(501, 5, 0), Due.WRONG);
        Due.no(x, "untouched(5, 0, 0)", x.untouched(5, 0, 0), Due.WRONG);
        Due.no(x, "untouched(5, 2001, 0)", x.untouched(5, 2001, 0), Due.WRONG);
        Due.no(x, "untouched(5, 5, 2)", x.untouched(5, 5, 2), Due.WRONG);
        Due.no(x, "untouched(5, 5, -1)", x.untouched(5, 5, -1), Due.WRONG);
    }

    private static void primitive() {
        Due.promise(24);
        SumWalker x = withLaw(3);
        for (int n : new int[] {20, 70, 88, 104, 272, 304, 464, 550, 572, 650, 945}) {
            Due.ok(x, "primitive(" + n + ")", x.primitive(n), 1);
        }
        for (int n : new int[] {1, 2, 6, 12, 18, 28, 30, 40, 42, 56, 60, 140, 496, 1890, TOP, 735_134_400}) {
            Due.ok(x, "primitive(" + n + ")", x.primitive(n), 0);
        }
        for (int n : NO_NUMBERS) {
            Due.no(x, "primitive(" + n + ")", x.primitive(n), Due.WRONG);
        }
    }

    private static void depth() {
        Due.promise(25);
        SumWalker x = new SumWalker();
        Due.ok(x, "depth(6, 24): 6 itself alone", x.depth(6, 24), 0);
        Due.ok(x, "depth(6, 30)", x.depth(6, 30), 1);
        Due.ok(x, "depth(0, 1)", x.depth(0, 1), 1);
        Due.ok(x, "depth(0, 2)", x.depth(0, 2), 2);
        Due.ok(x, "depth(2, 500)", x.depth(2, 500), 0);
        // Back from 220 come 284, then 220 again, which counts 0.
        Due.ok(x, "depth(220, 284)", x.depth(220, 284), 2);
        Due.ok(x, "depth(284, 284)", x.depth(284, 284), 2);
        Due.ok(x, "depth(220, 283)", x.depth(220, 283), 0);
        Due.ok(x, "depth(284, 283)", x.depth(284, 283), 1);
        Due.ok(x, "depth(2000, 1)", x.depth(2000, 1), 0);
        // Bare: 15 to 9 to 4 to 3 to 1 to 0, 12 is its own SUM.
        SumWalker y = withLaw(3);
        Due.ok(y, "depth(12, 12) bare", y.depth(12, 12), 0);
        Due.ok(y, "depth(12, 18) bare", y.depth(12, 18), 1);
        Due.no(x, "depth(-1, 5)", x.depth(-1, 5), Due.WRONG);
        Due.no(x, "depth(2001, 5)", x.depth(2001, 5), Due.WRONG);
        Due.no(x, "depth(5, 0)", x.depth(5, 0), Due.WRONG);
        Due.no(x, "depth(5, 501)", x.depth(5, 501), Due.WRONG);
    }

    private static void euclid() {
        Due.promise(26);
        SumWalker x = withLaw(1);
        for (int p = 2; p <= 15; p++) {
            boolean prime = p == 2 || p == 3 || p == 5 || p == 7 || p == 13;
            Due.ok(x, "euclid(" + p + ", 0)", x.euclid(p, 0), prime ? 1 : 0);
            Due.ok(x, "euclid(" + p + ", 1)", x.euclid(p, 1), (1L << (2 * p - 1)) - (1L << (p - 1)));
            Due.ok(x, "euclid(" + p + ", 2)", x.euclid(p, 2), prime ? 1 : 2);
        }
        for (int p : new int[] {1, 0, -1, 16, 33, Integer.MIN_VALUE, Integer.MAX_VALUE}) {
            Due.no(x, "euclid(" + p + ", 0)", x.euclid(p, 0), Due.WRONG);
        }
        Due.no(x, "euclid(3, 3)", x.euclid(3, 3), Due.WRONG);
        Due.no(x, "euclid(3, -1)", x.euclid(3, -1), Due.WRONG);
    }

    private static void touched() {
        Due.promise(27);
        SumWalker x = new SumWalker();
        Due.ok(x, "touched(6, 30, 0)", x.touched(6, 30, 0), 2);
        Due.ok(x, "touched(6, 30, 1)", x.touched(6, 30, 1), 6);
        Due.ok(x, "touched(1, 2000, 0)", x.touched(1, 2000, 0), 303);
        Due.ok(x, "touched(1, 2000, 1)", x.touched(1, 2000, 1), 2);
        Due.ok(x, "touched(0, 1, 1)", x.touched(0, 1, 1), 1);
        Due.ok(x, "touched(2, 2000, 0)", x.touched(2, 2000, 0), 0);
        Due.no(x, "touched(2, 2000, 1)", x.touched(2, 2000, 1), Due.NOTHING);
        Due.ok(x, "touched(999999999, 2000, 0)", x.touched(TOP, 2000, 0), 0);
        SumWalker y = withLaw(2);
        Due.ok(y, "touched(0, 10, 0) reduced", y.touched(0, 10, 0), 5);
        Due.no(x, "touched(-1, 5, 0)", x.touched(-1, 5, 0), Due.WRONG);
        Due.no(x, "touched(-2147483648, 5, 0)", x.touched(Integer.MIN_VALUE, 5, 0), Due.WRONG);
        Due.ok(x, "touched(1000000000, 5, 0): no upper end", x.touched(TOP + 1, 5, 0), 0);
        Due.no(x, "touched(1000000000, 5, 1)", x.touched(TOP + 1, 5, 1), Due.NOTHING);
        Due.ok(x, "touched(1073741823, 1, 0)", x.touched(1_073_741_823, 1, 0), 0);
        Due.ok(x, "touched(2147483647, 2000, 0)", x.touched(Integer.MAX_VALUE, 2000, 0), 0);
        Due.no(x, "touched(2147483647, 2000, 1)", x.touched(Integer.MAX_VALUE, 2000, 1), Due.NOTHING);
        Due.no(x, "touched(1000000000, 2001, 0)", x.touched(TOP + 1, 2001, 0), Due.WRONG);
        Due.no(x, "touched(1000000000, 5, 2)", x.touched(TOP + 1, 5, 2), Due.WRONG);
        Due.no(x, "touched(1, 0, 0)", x.touched(1, 0, 0), Due.WRONG);
        Due.no(x, "touched(1, 2001, 0)", x.touched(1, 2001, 0), Due.WRONG);
        Due.no(x, "touched(1, 5, 2)", x.touched(1, 5, 2), Due.WRONG);
        Due.no(x, "touched(1, 5, -1)", x.touched(1, 5, -1), Due.WRONG);
    }
}
