/** Terms 2, sentence by sentence: where sums, ROWS, GUIDES and the rest have their edges. */
public final class TermsEdgesTest {
    private static final int TOP = 999_999_999;
    private static final int NONE = SumWalker.NONE;

    public static void main(String[] args) {
        sums();
        kinds();
        rowsEnd();
        askedInThisOrder();
        firstAboveBound();
        steps();
        rounds();
        guides();
        drivers();
        growth();
        climbs();
        lost();
        indices();
        kins();
        parts();
        wholes();
        families();
        records();
        practical();
        ladders();
        before();
        depths();
        duels();
        mates();
        rings();
        shapes();
        euler();
        acts();
        actsByEachCall();
        Due.end();
    }

    private static SumWalker withLaw(int law) {
        SumWalker x = new SumWalker();
        x.rule(2, law);
        return x;
    }

    private static void terms(String sentence) {
        Due.promise(0);
        Due.sentence(sentence);
    }

    // ---- sums

    private static void sums() {
        terms("SUM of a number n from 1 on: of its divisors but n itself. (Of 1 it is 0.)");
        for (int law = 0; law < 4; law++) {
            SumWalker x = withLaw(law);
            Due.ok(x, "sum(1) by " + law, x.sum(1), 0);
            Due.ok(x, "sum(2) by " + law, x.sum(2), law == 2 ? 0 : 1);
            Due.ok(x, "sum(999999937) by " + law, x.sum(999_999_937), law == 2 ? 0 : 1);
        }
        long[][] due = {
            {4, 3, 1, 2, 3}, {9, 4, 1, 3, 4}, {16, 15, 1, 14, 3}, {36, 55, 14, 54, 12}, {64, 63, 1, 62, 3},
            {210, 366, 366, 365, 366}, {536_870_912, 536_870_911, 1, 536_870_910, 3},
            {999_950_884, 779_103_533, 250_167_616, 779_103_532, 48_216},
            {TOP, 534_205_465, 39_709_489, 534_205_464, 50_717_536}
        };
        for (long[] one : due) {
            for (int law = 0; law < 4; law++) {
                SumWalker x = withLaw(law);
                Due.ok(x, "sum(" + one[0] + ") by " + law, x.sum((int) one[0]), one[1 + law]);
            }
        }
    }

    private static void kinds() {
        terms("SHORT is n, if its SUM is less, PERFECT, if it is n, RICH, if it is more");
        // One less, just as much, and the least more that there is.
        kind(0, 0, 1, 2, 4, 8, 536_870_912);
        kind(0, 1, 6, 28, 496, 8128, 33_550_336);
        kind(0, 2, 20, 104, 464, 650, 1952);
        kind(1, 0, 1, 2);
        kind(1, 1, 6, 60, 90);
        kind(1, 2, 30, 42);
        kind(2, 0, 1, 6, 28, 496);
        kind(2, 2, 20, 104, 464, 650, 18);
        kind(3, 0, 1, 2, 4);
        kind(3, 1, 6, 12);
        kind(3, 2, 30, 42);
    }

    private static void kind(int law, int due, int... numbers) {
        SumWalker x = withLaw(law);
        for (int n : numbers) {
            Due.ok(x, "kind(" + n + ") by " + law, x.kind(n), due);
        }
    }

    // ---- rows

    private static void is(String text, int end, int... values) {
        SumWalker x = Due.desk(text);
        Due.ok(x, text + " ends(0)", x.ends(0), end);
        Due.ok(x, text + " value(0, NONE)", x.value(0, NONE), values.length);
        for (int k = 0; k < values.length; k++) {
            Due.ok(x, text + " value(0, " + k + ")", x.value(0, k), values[k]);
        }
        Due.no(x, text + " value(0, one too far)", x.value(0, values.length), Due.NOTHING);
    }

    private static void rowsEnd() {
        terms("0 NOUGHT: a VALUE is 0 (that is its last one)");
        is("row a 1;", 0, 1, 0);
        is("row a 2;", 0, 2, 1, 0);
        is("row a 12;", 0, 12, 16, 15, 9, 4, 3, 1, 0);
        is("law reduced;row a 2;", 0, 2, 0);
        is("law reduced;row a 999999937;", 0, 999_999_937, 0);
        is("bound 1;row a 999999937;", 0, 999_999_937, 1, 0);
        terms("1 ROUND: the next VALUE is one that it has (it does not come again)");
        is("row a 6;", 1, 6);
        is("row a 25;", 1, 25, 6);
        is("row a 220;", 1, 220, 284);
        is("row a 562;", 1, 562, 284, 220);
        is("law unitary;row a 220;", 1, 220, 140, 100, 30, 42, 54);
        terms("2 BEYOND: the next one is above BOUND (it does not come)");
        is("bound 16;row a 12;steps 1;", 3, 12, 16);
        is("bound 15;row a 12;steps 1;", 2, 12);
        is("bound 1;row a 4;", 2, 4);
        is("bound 999999999;row a 869530725;", 2, 869_530_725);
        is("bound 999999999;row a 930793204;", 1, 930_793_204, 999_728_396);
        is("bound 999728395;row a 930793204;", 2, 930_793_204);
        // A SUM that would be below 0 in an int.
        is("bound 999999999;row a 735134400;", 2, 735_134_400);
        is("bound 1;row a 735134400;", 2, 735_134_400);
    }

    private static void askedInThisOrder() {
        terms("Asked in this order for each next VALUE: it is had already; it is above BOUND; it comes: it is 0; STEPS");
        is("bound 1;row a 6;", 1, 6);
        is("bound 1;row a 28;steps 1;", 1, 28);
        is("bound 220;row a 284;", 1, 284, 220);
        is("bound 219;row a 284;", 2, 284);
        is("bound 284;row a 562;", 1, 562, 284, 220);
        is("bound 283;row a 562;", 2, 562);
        is("steps 1;row a 6;", 1, 6);
        is("steps 1;bound 5;row a 25;", 2, 25);
        is("steps 1;bound 6;row a 25;", 3, 25, 6);
        is("steps 2;bound 6;row a 25;", 1, 25, 6);
        is("steps 1;row a 1;", 0, 1, 0);
        is("steps 2;row a 2;", 0, 2, 1, 0);
        is("steps 1;row a 2;", 3, 2, 1);
        is("steps 1;bound 1;law reduced;row a 97;", 0, 97, 0);
    }

    private static void firstAboveBound() {
        terms("(The first VALUE may be above BOUND.)");
        is("bound 5;row a 25;", 2, 25);
        is("bound 6;row a 25;", 1, 25, 6);
        is("bound 7;row a 25;", 1, 25, 6);
        is("bound 1;row a 1;", 0, 1, 0);
        is("bound 1;row a 2;", 0, 2, 1, 0);
        is("bound 3;row a 4;", 0, 4, 3, 1, 0);
        is("bound 2;row a 4;", 2, 4);
        is("bound 1;row a 999999999;", 2, TOP);
    }

    private static void steps() {
        terms("3 LONG: it has STEPS VALUES behind the first one, and none of these is so");
        is("steps 1;row a 12;", 3, 12, 16);
        is("steps 6;row a 12;", 3, 12, 16, 15, 9, 4, 3, 1);
        is("steps 7;row a 12;", 0, 12, 16, 15, 9, 4, 3, 1, 0);
        is("steps 8;row a 12;", 0, 12, 16, 15, 9, 4, 3, 1, 0);
        is("steps 1;row a 220;", 3, 220, 284);
        is("steps 2;row a 220;", 1, 220, 284);
        is("steps 2;row a 562;", 3, 562, 284, 220);
        is("steps 3;row a 562;", 1, 562, 284, 220);
        is("steps 1;bound 100;row a 72;law unitary;", 3, 72, 18);
        SumWalker x = Due.desk("steps 100;bound 999999999;row a 138;");
        Due.ok(x, "ends(0) of as many VALUES as there may be", x.ends(0), 3);
        Due.ok(x, "value(0, NONE)", x.value(0, NONE), 101);
        Due.ok(x, "value(0, 100) >= 1", x.value(0, 100) >= 1 ? 1 : 0, 1);
        Due.no(x, "value(0, 101)", x.value(0, 101), Due.NOTHING);
        x.rule(1, 99);
        Due.ok(x, "value(0, NONE) with 99 STEPS", x.value(0, NONE), 100);
        SumWalker y = Due.desk("row a 180;");
        Due.ok(y, "ends(0) without STEPS", y.ends(0), 3);
        Due.ok(y, "value(0, NONE) without STEPS", y.value(0, NONE), 31);
        Due.ok(y, "value(0, 30)", y.value(0, 30), 3196);
    }

    private static void rounds() {
        terms("ROUND of a ROW that ENDS so: from the PLACE of that VALUE on to its end");
        round("row a 6;", 0, 1, 6);
        round("row a 25;", 1, 1, 6);
        round("row a 220;", 0, 2, 220);
        round("row a 284;", 0, 2, 220);
        round("row a 562;", 1, 2, 220);
        round("law unitary;row a 220;", 3, 3, 30);
        round("law unitary;row a 54;", 0, 3, 30);
        round("bound 1;row a 999999999;", NONE, NONE, NONE);
        round("bound 999999;row a 14316;steps 28;", 0, 28, 14_316);
        round("bound 999999;row a 14316;steps 27;", NONE, NONE, NONE);
        round("row a 12;", NONE, NONE, NONE);
        round("row a 930793204;bound 999999999;", 0, 2, 930_793_204);
    }

    private static void round(String text, int... due) {
        SumWalker x = Due.desk(text);
        for (int what = 0; what < 3; what++) {
            String call = text + " round(0, " + what + ")";
            if (due[what] == NONE) {
                Due.no(x, call, x.round(0, what), Due.NOTHING);
            } else {
                Due.ok(x, call, x.round(0, what), due[what]);
            }
        }
    }

    // ---- guides

    private static void guide(SumWalker x, int n, int guide, int a, int v, int driver) {
        int[] due = {guide, a, v, driver};
        for (int what = 0; what < 4; what++) {
            Due.ok(x, "guide(" + n + ", " + what + ")", x.guide(n, what), due[what]);
        }
    }

    private static void guides() {
        terms("GUIDE of an even number n: 2 to the a (as often as n has 2) times v");
        SumWalker x = new SumWalker();
        for (int a = 1; a <= 29; a++) {
            guide(x, 1 << a, 1 << a, a, 1, a == 1 ? 1 : 0);
        }
        guide(x, 999_999_998, 2, 1, 1, 1);
        guide(x, 999_999_996, 4, 2, 1, 0);
        terms("the primes of 2 to the (a and 1), less 1, that n has, each as often as both have it");
        guide(x, 6, 6, 1, 3, 1);
        guide(x, 18, 6, 1, 3, 1);
        guide(x, 12, 4, 2, 1, 0);
        guide(x, 28, 28, 2, 7, 1);
        guide(x, 196, 28, 2, 7, 1);
        guide(x, 96, 96, 5, 3, 0);
        guide(x, 288, 288, 5, 9, 0);
        guide(x, 864, 288, 5, 9, 0);
        guide(x, 224, 224, 5, 7, 0);
        guide(x, 2016, 2016, 5, 63, 0);
        guide(x, 18_144, 2016, 5, 63, 0);
        guide(x, 130_816, 130_816, 8, 511, 0);
        guide(x, 523_776, 523_776, 9, 1023, 1);
        guide(x, 47_616, 47_616, 9, 93, 0);
        guide(x, 238_080, 47_616, 9, 93, 0);
        guide(x, 536_854_528, 536_854_528, 14, 32_767, 0);
        guide(x, 33_550_336, 33_550_336, 12, 8191, 1);
        for (int what = 0; what < 4; what++) {
            Due.no(x, "guide(1, " + what + ")", x.guide(1, what), Due.NOTHING);
            Due.no(x, "guide(999999999, " + what + ")", x.guide(TOP, what), Due.NOTHING);
        }
    }

    private static void drivers() {
        terms("a DRIVER, if the sum of all divisors of v has 2 at least a less 1 times");
        SumWalker x = withLaw(2);
        // Just as often: 2 (0 of 0), 24 (2 of 2); one too few: 4 (0 of 1), 40 (1 of 2), 224 (3 of 4).
        for (int n : new int[] {2, 6, 10, 24, 28, 120, 496, 672, 8128, 523_776, 33_550_336}) {
            Due.ok(x, "guide(" + n + ", 3)", x.guide(n, 3), 1);
        }
        for (int n : new int[] {4, 8, 12, 16, 40, 48, 96, 224, 288, 2016, 384, 1920, 32_640, 1536, 47_616, 174_592,
            2_096_128, 536_870_912}) {
            Due.ok(x, "guide(" + n + ", 3)", x.guide(n, 3), 0);
        }
        Due.ok(x, "counts(2, 2, 4)", x.counts(2, 2, 4), 1);
        Due.ok(x, "counts(3, 5, 4)", x.counts(3, 5, 4), 0);
        Due.ok(x, "counts(24, 24, 4)", x.counts(24, 24, 4), 1);
    }

    private static void growth() {
        terms("GROWTH of a VALUE: 1000 times the next one by it, rounded down");
        growth("row a 1;", 0);
        growth("row a 2;", 500, 0);
        growth("row a 4;", 750, 333, 0);
        growth("row a 25;", 240);
        growth("row a 1024;steps 1;", 999);
        growth("row a 997;", 1, 0);
        growth("row a 1000;steps 1;", 1340);
        growth("row a 999999937;", 0, 0);
        growth("row a 220;", 1290);
        growth("row a 30;steps 1;", 1400);
        growth("law reduced;row a 20;steps 1;", 1050);
        growth("bound 999999999;steps 1;row a 930793204;", 1074);
        growth("row a 6;");
        growth("bound 1;row a 12;");
        growth("bound 999999999;steps 1;row a 500000000;", 1495);
    }

    private static void growth(String text, int... due) {
        SumWalker x = Due.desk(text);
        for (int k = 0; k < due.length; k++) {
            Due.ok(x, text + " growth(0, " + k + ")", x.growth(0, k), due[k]);
        }
        Due.no(x, text + " growth(0, last place)", x.growth(0, due.length), Due.NOTHING);
    }

    private static void climbs() {
        terms("A CLIMB: VALUES next to each other, each more than the one ahead");
        int[][] due = {
            // the number, how many VALUES, the first PLACE
            {1, 1, 0}, {2, 1, 0}, {6, 1, 0}, {12, 2, 0}, {220, 2, 0}, {562, 1, 0}, {96, 3, 0}, {360, 5, 0},
            {520, 4, 4}, {34, 2, 1}, {138, 23, 0}, {276, 13, 8}
        };
        for (int[] one : due) {
            SumWalker x = Due.desk("row a " + one[0] + ";");
            Due.ok(x, "climb(0, 0) from " + one[0], x.climb(0, 0), one[1]);
            Due.ok(x, "climb(0, 1) from " + one[0] + ", of several the first", x.climb(0, 1), one[2]);
        }
        SumWalker x = Due.desk("steps 2;row a 30;");
        Due.ok(x, "climb(0, 0) from the first PLACE to the last", x.climb(0, 0), 3);
        Due.ok(x, "climb(0, 1) from the first PLACE to the last", x.climb(0, 1), 0);
    }

    private static void lost() {
        terms("LOST is the GUIDE at a PLACE (from 1 on), if it and the PLACE ahead are even, and the GUIDES unlike: "
            + "1 a is another one, 2 a is the same, v another one");
        lost("row a 276;", 0, 1, 1, 0, 1, 0, 0, 1, 0, 0, 0, 0, 0, 0, 0, 0, 0, 0, 0, 0);
        lost("row a 120;", 1, 1, 1, 1, 1, 1, 1, 0, 0, 0, 0, 0);
        lost("row a 562;", 1, 0);
        // 140, 196, 203, 37, 1, 0: even, even, odd; 4 and 28 unlike in v alone.
        lost("row a 140;", 0, 0, 0, 0, 0);
        lost("law unitary;row a 220;", 2, 2, 1, 0, 0);
        lost("law reduced;row a 50;steps 1;", 2);
        lost("row a 6;");
        lost("row a 1;", 0);
        // A VALUE 0 has no GUIDE.
        lost("law reduced;row a 2;", 0);
        lost("law reduced;row a 8;", 1, 0, 0);
    }

    private static void lost(String text, int... due) {
        SumWalker x = Due.desk(text);
        Due.no(x, text + " lost(0, 0)", x.lost(0, 0), Due.WRONG);
        for (int k = 1; k <= due.length; k++) {
            Due.ok(x, text + " lost(0, " + k + ")", x.lost(0, k), due[k - 1]);
        }
        Due.no(x, text + " lost(0, too far)", x.lost(0, due.length + 1), Due.NOTHING);
    }

    // ---- divisors

    private static void indices() {
        terms("INDEX of a number: all its divisors (whatever LAW), itself, too, added, by it, as a fraction without a "
            + "common divisor");
        long[][] due = {
            {1, 1, 1}, {2, 3, 2}, {6, 2, 1}, {120, 3, 1}, {12, 7, 3}, {999_999_937, 999_999_938, 999_999_937},
            {936_360_000, 3_684_499_489L, 936_360_000}, {900_000_000, 3_243_650_683L, 900_000_000},
            {536_870_912, 1_073_741_823, 536_870_912}, {33_550_336, 2, 1}, {459_818_240, 3, 1}
        };
        for (int law = 0; law < 4; law++) {
            SumWalker x = withLaw(law);
            for (long[] one : due) {
                Due.ok(x, "index(" + one[0] + ", 0)", x.index((int) one[0], 0), one[1]);
                Due.ok(x, "index(" + one[0] + ", 1)", x.index((int) one[0], 1), one[2]);
            }
        }
        Due.promise(22);
        Due.sentence("as a fraction without a common divisor");
        SumWalker x = new SumWalker();
        Due.ok(x, "mean(864360000, true, 0)", x.mean(864_360_000, true, 0), 453_789_000_000L);
        Due.ok(x, "mean(864360000, true, 1)", x.mean(864_360_000, true, 1), 3_611_696_231L);
        Due.ok(x, "mean(1, true, 0)", x.mean(1, true, 0), 1);
        Due.ok(x, "mean(1, false, 1)", x.mean(1, false, 1), 1);
        Due.promise(15);
        Due.sentence("KIN are numbers with the same INDEX; itself not");
        Due.ok(x, "kin(1, 1, 501, NONE)", x.kin(1, 1, 501, NONE), 0);
        Due.ok(x, "kin(6, 28, 28, 0)", x.kin(6, 28, 28, 0), 28);
        Due.ok(x, "kin(6, 27, 28, NONE)", x.kin(6, 27, 28, NONE), 1);
        Due.ok(x, "kin(6, 28, 29, NONE)", x.kin(6, 28, 29, NONE), 1);
        Due.ok(x, "kin(6, 29, 495, NONE)", x.kin(6, 29, 495, NONE), 0);
        Due.ok(x, "kin(28, 6, 506, 0): the first one", x.kin(28, 6, 506, 0), 6);
        Due.ok(x, "kin(28, 6, 506, 1): the last one", x.kin(28, 6, 506, 1), 496);
        Due.ok(x, "kin(6, 33550336, 33550336, 0)", x.kin(6, 33_550_336, 33_550_336, 0), 33_550_336);
        Due.ok(x, "kin(120, 459818240, 459818240, 0)", x.kin(120, 459_818_240, 459_818_240, 0), 459_818_240);
    }

    private static void kins() {
        Due.promise(16);
        Due.sentence("how many unlike INDICES, how many numbers have KIN in it, the least number that has the most");
        int[][] due = {
            // from, to, how many, with KIN, the least with most
            {6, 28, 22, 2, 6}, {6, 27, 22, 0, NONE}, {7, 28, 22, 0, NONE}, {6, 6, 1, 0, NONE}, {1, 1, 1, 0, NONE},
            {30, 140, 110, 2, 30}, {TOP, TOP, 1, 0, NONE}
        };
        for (int[] one : due) {
            SumWalker x = new SumWalker();
            String call = "kins(" + one[0] + ", " + one[1] + ", ";
            Due.ok(x, call + "0)", x.kins(one[0], one[1], 0), one[2]);
            Due.ok(x, call + "1)", x.kins(one[0], one[1], 1), one[3]);
            if (one[4] == NONE) {
                Due.no(x, call + "2)", x.kins(one[0], one[1], 2), Due.NOTHING);
            } else {
                Due.ok(x, call + "2)", x.kins(one[0], one[1], 2), one[4]);
            }
        }
    }

    private static void parts() {
        terms("PART of a prime in the INDEX: 1000 times all divisors of that, added, by that, rounded down");
        SumWalker x = withLaw(3);
        Due.ok(x, "part(2, 0)", x.part(2, 0), 1500);
        Due.ok(x, "part(4, 0)", x.part(4, 0), 1750);
        Due.ok(x, "part(3, 0)", x.part(3, 0), 1333);
        Due.ok(x, "part(997, 0)", x.part(997, 0), 1001);
        Due.ok(x, "part(1009, 0)", x.part(1009, 0), 1000);
        Due.ok(x, "part(536870912, 0)", x.part(536_870_912, 0), 1999);
        Due.ok(x, "part(387420489, 0)", x.part(387_420_489, 0), 1499);
        Due.ok(x, "part(999002449, 0)", x.part(999_002_449, 0), 1000);
        Due.ok(x, "part(999999937, 0)", x.part(999_999_937, 0), 1000);
        Due.ok(x, "part(223092870, 0)", x.part(223_092_870, 0), 1500);
        Due.ok(x, "part(223092870, 8)", x.part(223_092_870, 8), 1043);
        Due.no(x, "part(223092870, 9)", x.part(223_092_870, 9), Due.NOTHING);
    }

    private static void wholes() {
        terms("WHOLE is a number, if it is some of its divisors, but itself, added, each once at most; WEIRD, if all of "
            + "these added are more than it, and it is not WHOLE");
        for (int law = 0; law < 4; law++) {
            SumWalker x = withLaw(law);
            int[][] due = {{1, 0}, {2, 0}, {3, 0}, {4, 0}, {6, 1}, {10, 0}, {12, 1}, {28, 1}, {70, 2}, {836, 2},
                {2994, 1}, {2996, 1}, {2998, 0}, {2999, 0}, {3000, 1}};
            for (int[] one : due) {
                Due.ok(x, "whole(" + one[0] + ")", x.whole(one[0]), one[1]);
            }
        }
    }

    private static void families() {
        terms("FAMILIES of the numbers 1 to m: a SUM that is 0 or above m leads nowhere");
        int[][] due = {
            // LAW, m, how many, greatest's size, its least, alone
            {0, 1, 1, 1, 1, 1}, {1, 1, 1, 1, 1, 1}, {2, 1, 1, 1, 1, 1}, {3, 1, 1, 1, 1, 1},
            {0, 2, 1, 2, 1, 0}, {2, 2, 2, 1, 1, 2}, {2, 3, 3, 1, 1, 3}, {0, 3, 1, 3, 1, 0},
            {0, 500, 38, 414, 1, 18}, {1, 500, 11, 450, 1, 6}, {2, 500, 131, 86, 7, 83}, {3, 500, 9, 263, 12, 5}
        };
        for (int[] one : due) {
            SumWalker x = withLaw(one[0]);
            for (int what = 0; what < 4; what++) {
                Due.ok(x, "families(" + one[1] + ", " + what + ") by " + one[0], x.families(one[1], what), one[2 + what]);
            }
        }
        // 12 goes to 16, which is above 15 and not above 16.
        SumWalker x = new SumWalker();
        Due.ok(x, "families(15, 0)", x.families(15, 0), 3);
        Due.ok(x, "families(16, 0)", x.families(16, 0), 2);
    }

    private static void records() {
        terms("RECORDS up to m: numbers from 1 on with an INDEX greater than that of all less ones");
        SumWalker x = withLaw(2);
        Due.ok(x, "record(1, NONE)", x.record(1, NONE), 1);
        Due.ok(x, "record(1, 0)", x.record(1, 0), 1);
        Due.no(x, "record(1, 1)", x.record(1, 1), Due.NOTHING);
        Due.ok(x, "record(2, NONE)", x.record(2, NONE), 2);
        Due.ok(x, "record(1679, NONE)", x.record(1679, NONE), 16);
        Due.ok(x, "record(1680, NONE)", x.record(1680, NONE), 17);
        Due.ok(x, "record(1680, 16)", x.record(1680, 16), 1680);
        Due.ok(x, "record(2000, NONE)", x.record(2000, NONE), 17);
        Due.ok(x, "record(2000, 16)", x.record(2000, 16), 1680);
        Due.no(x, "record(2000, 17)", x.record(2000, 17), Due.NOTHING);
    }

    private static void practical() {
        terms("PRACTICAL is a number, if each number up to it is some of its divisors (itself, too) added");
        SumWalker x = withLaw(1);
        // Each time the last prime is at most one more than all divisors of the rest, added, or just above that.
        for (int n : new int[] {1, 2, 6, 28, 348, 860, 78, 536_870_912, 735_134_400}) {
            Due.ok(x, "practical(" + n + ")", x.practical(n), 1);
        }
        for (int n : new int[] {3, 10, 44, 372, 940, 102, 999_999_937, TOP, 999_999_998}) {
            Due.ok(x, "practical(" + n + ")", x.practical(n), 0);
        }
    }

    private static void ladders() {
        terms("A LADDER from n: till it is 1 or 2 (that comes yet)");
        ladder(1, 1);
        ladder(2, 2);
        ladder(3, 3, 2);
        ladder(4, 4, 3, 2);
        ladder(999_999_937, 999_999_937, 2);
        ladder(735_134_400, 735_134_400, 1344, 28, 6, 4, 3, 2);
        ladder(TOP, TOP, 20, 6, 4, 3, 2);
    }

    private static void ladder(int n, int... due) {
        SumWalker x = new SumWalker();
        Due.ok(x, "ladder(" + n + ", NONE)", x.ladder(n, NONE), due.length);
        for (int k = 0; k < due.length; k++) {
            Due.ok(x, "ladder(" + n + ", " + k + ")", x.ladder(n, k), due[k]);
        }
        Due.no(x, "ladder(" + n + ", too far)", x.ladder(n, due.length), Due.NOTHING);
    }

    private static void before() {
        terms("BEFORE n, up to m: numbers 1 to m of which n is the SUM");
        int[][] due = {
            // LAW, n, how many up to 2000, the least, the greatest
            {0, 0, 1, 1, 1}, {0, 1, 303, 2, 1999}, {0, 2, 0, NONE, NONE}, {0, 3, 1, 4, 4}, {0, 6, 2, 6, 25},
            {0, 4572, 1, 1980, 1980}, {1, 0, 1, 1, 1}, {1, 1, 333, 2, 1999}, {1, 3, 0, NONE, NONE},
            {1, 2634, 2, 1830, 1974}, {2, 0, 304, 1, 1999}, {2, 1, 0, NONE, NONE}, {2, 2, 1, 4, 4},
            {3, 0, 1, 1, 1}, {3, 3, 9, 4, 1024}, {3, 12, 31, 12, 1944}, {3, TOP, 0, NONE, NONE}
        };
        for (int[] one : due) {
            SumWalker x = withLaw(one[0]);
            String of = one[1] + ", 2000, ";
            Due.ok(x, "touched(" + of + "0)", x.touched(one[1], 2000, 0), one[2]);
            Due.no(x, "before(" + of + "too far)", x.before(one[1], 2000, one[2]), Due.NOTHING);
            if (one[2] == 0) {
                Due.no(x, "touched(" + of + "1)", x.touched(one[1], 2000, 1), Due.NOTHING);
                continue;
            }
            Due.ok(x, "touched(" + of + "1)", x.touched(one[1], 2000, 1), one[3]);
            Due.ok(x, "before(" + of + "0)", x.before(one[1], 2000, 0), one[3]);
            Due.ok(x, "before(" + of + "last)", x.before(one[1], 2000, one[2] - 1), one[4]);
            // Up to m, that, too, and no further.
            Due.ok(x, "touched(" + one[1] + ", least, 0)", x.touched(one[1], one[3], 0), 1);
            if (one[3] > 1) {
                Due.ok(x, "touched(" + one[1] + ", below the least, 0)", x.touched(one[1], one[3] - 1, 0), 0);
                Due.no(x, "touched(" + one[1] + ", below, 1)", x.touched(one[1], one[3] - 1, 1), Due.NOTHING);
                Due.no(x, "before(" + one[1] + ", below, 0)", x.before(one[1], one[3] - 1, 0), Due.NOTHING);
            }
        }
        Due.promise(23);
        Due.sentence("Numbers 1 to n that are the SUM of no number 1 to m");
        int[][] left = {
            // LAW, n, m, how many, the greatest
            {0, 1, 1, 1, 1}, {0, 1, 2, 0, NONE}, {0, 500, 1, 500, 500}, {0, 500, 2000, 111, 500},
            {1, 500, 2000, 64, 499}, {2, 1, 2000, 1, 1}, {2, 500, 2000, 111, 499}, {3, 500, 2000, 126, 500}
        };
        for (int[] one : left) {
            SumWalker x = withLaw(one[0]);
            String call = "untouched(" + one[1] + ", " + one[2] + ", ";
            Due.ok(x, call + "0)", x.untouched(one[1], one[2], 0), one[3]);
            if (one[4] == NONE) {
                Due.no(x, call + "1)", x.untouched(one[1], one[2], 1), Due.NOTHING);
            } else {
                Due.ok(x, call + "1)", x.untouched(one[1], one[2], 1), one[4]);
            }
        }
    }

    private static void depths() {
        terms("DEPTH of n, up to m: 0 without any BEFORE it but itself, else one more than the greatest DEPTH of these, "
            + "but itself (numbers that come again on the way back end it: they count 0)");
        int[][] due = {
            // LAW, n, m, DEPTH
            {0, 0, 1, 1}, {0, 0, 2, 2}, {0, 0, 500, 15}, {0, 1, 1, 0}, {0, 1, 2, 1}, {0, 2, 500, 0}, {0, 6, 6, 0},
            {0, 6, 24, 0}, {0, 6, 25, 1}, {0, 6, 500, 3}, {0, 28, 28, 0}, {0, 220, 283, 0}, {0, 220, 284, 2},
            {0, 284, 284, 2}, {0, 2000, 500, 0}, {0, 500, 500, 0}, {0, 2000, 1, 0}, {0, 501, 500, 0},
            {1, 0, 500, 15}, {1, 12, 500, 12}, {1, 30, 53, 0}, {1, 30, 54, 3}, {1, 42, 54, 3}, {1, 54, 54, 3},
            {1, 30, 500, 6}, {1, 114, 126, 2}, {1, 126, 500, 3}, {1, 60, 500, 0}, {1, 90, 500, 4},
            {2, 0, 1, 1}, {2, 0, 500, 13}, {2, 1, 500, 0}, {2, 48, 74, 0}, {2, 48, 75, 2}, {2, 75, 75, 2},
            {2, 140, 500, 4}, {2, 195, 500, 3}, {3, 0, 500, 10}, {3, 6, 500, 3}, {3, 12, 12, 0}, {3, 12, 500, 9}
        };
        for (int[] one : due) {
            SumWalker x = withLaw(one[0]);
            Due.ok(x, "depth(" + one[1] + ", " + one[2] + ") by " + one[0], x.depth(one[1], one[2]), one[3]);
        }
    }

    // ---- two rows

    private static void duels() {
        terms("A DUEL of two ROWS, PLACE by PLACE as far as both have VALUES: it TURNS, where another one has it than had "
            + "it latest");
        // 2 1 0 against 3 1 0; 6 against 6; 1 0 against 25 6; 220 284 against 284 220.
        duel("row a 2;row b 3;", 0, 1, 0, 2);
        duel("row a 6;row b 6;", 0, 0, 0, 0);
        duel("row a 1;row b 25;", 0, 2, 0, 1);
        duel("row a 220;row b 284;", 1, 1, 1, 1);
        duel("row a 284;row b 220;", 1, 1, 1, 1);
        duel("row a 6;row b 12;", 0, 1, 0, 0);
        // 12 16 15 9 4 3 1 0 against 10 8 7 1 0, 8 7 1 0 and 16 15 9 4 3 1 0.
        duel("row a 12;row b 10;", 5, 0, 0, 4);
        duel("row a 12;row b 16;", 6, 1, 1, 6);
        // 15 9 4 3 1 0 against 14 10 8 7 1 0, where neither has the last two.
        duel("row a 15;row b 14;", 1, 3, 1, 5);
        // 4 3 1 0 against 3 1 0, then one PLACE where neither has it.
        duel("row a 4;row b 3;", 3, 0, 0, 2);
        SumWalker x = Due.desk("steps 100;bound 999999999;row a 138;row b 150;");
        Due.ok(x, "duel(0, 1, 3) of the longest", x.duel(0, 1, 3), 100);
    }

    private static void duel(String text, int... due) {
        SumWalker x = Due.desk(text);
        for (int what = 0; what < 4; what++) {
            Due.ok(x, text + " duel(0, 1, " + what + ")", x.duel(0, 1, what), due[what]);
        }
        Due.ok(x, text + " duel(1, 0, 0)", x.duel(1, 0, 0), due[1]);
        Due.ok(x, text + " duel(1, 0, 1)", x.duel(1, 0, 1), due[0]);
        Due.ok(x, text + " duel(1, 0, 2)", x.duel(1, 0, 2), due[2]);
        Due.ok(x, text + " duel(1, 0, 3)", x.duel(1, 0, 3), due[3]);
    }

    // ---- ranges

    private static void mates() {
        terms("MATES: two unlike numbers, none above 999,999,999, each the SUM of the other one");
        mate(0, 6, NONE);
        mate(0, 28, NONE);
        mate(0, 1, NONE);
        mate(0, 220, 284);
        mate(0, 284, NONE);
        mate(0, 930_793_204, 999_728_396);
        mate(0, 999_728_396, NONE);
        mate(0, 869_530_725, NONE);
        mate(0, 994_945_490, NONE);
        mate(0, 735_134_400, NONE);
        mate(1, 114, 126);
        mate(1, 908_177_634, NONE);
        mate(1, 971_609_058, 987_942_942);
        mate(2, 48, 75);
        mate(2, 740_532_716, 980_389_395);
        mate(2, 959_131_635, NONE);
        mate(3, 938_304_290, NONE);
        mate(3, 12, NONE);
        SumWalker x = new SumWalker();
        Due.ok(x, "mates(219, 220, NONE, 0): the last one of the RANGE", x.mates(219, 220, NONE, 0), 1);
        Due.ok(x, "mates(220, 221, NONE, 0): the first one of the RANGE", x.mates(220, 221, NONE, 0), 1);
        Due.ok(x, "mates(221, 721, NONE, 0)", x.mates(221, 721, NONE, 0), 0);
        Due.ok(x, "mates(66900, 67400, NONE, 1)", x.mates(66_900, 67_400, NONE, 1), 2);
        Due.ok(x, "mates(66900, 67400, 0, 0)", x.mates(66_900, 67_400, 0, 0), 66_928);
        Due.ok(x, "mates(66900, 67400, 0, 1)", x.mates(66_900, 67_400, 0, 1), 66_992);
    }

    private static void mate(int law, int n, int due) {
        SumWalker x = withLaw(law);
        String call = "mates(" + n + ", " + n + ", ";
        Due.ok(x, call + "NONE, 0) by " + law, x.mates(n, n, NONE, 0), due == NONE ? 0 : 1);
        if (due == NONE) {
            Due.no(x, call + "0, 1) by " + law, x.mates(n, n, 0, 1), Due.NOTHING);
        } else {
            Due.ok(x, call + "0, 0) by " + law, x.mates(n, n, 0, 0), n);
            Due.ok(x, call + "0, 1) by " + law, x.mates(n, n, 0, 1), due);
            Due.no(x, call + "1, 0) by " + law, x.mates(n, n, 1, 0), Due.NOTHING);
        }
    }

    private static void rings() {
        terms("A RING of L numbers: a number n that is the least of a ROUND of L numbers, in which n itself is. (Whatever "
            + "BOUND and STEPS: gone on for L SUMS, none above 999,999,999.)");
        ring(0, 1, 0);
        ring(0, 6, 1);
        ring(0, 25, 0);
        ring(0, 220, 2);
        ring(0, 284, 0);
        ring(0, 562, 0);
        ring(0, 12_496, 5);
        ring(0, 14_316, 28);
        ring(0, 1_264_460, 4);
        ring(0, 498_215_416, 4);
        ring(0, 930_793_204, 2);
        ring(0, 869_530_725, 0);
        ring(0, 805_984_760, 0);
        ring(0, 735_134_400, 0);
        ring(0, TOP, 0);
        ring(1, 30, 3);
        ring(1, 42, 0);
        ring(1, 54, 0);
        ring(2, 48, 2);
        ring(2, 2, 0);
        ring(3, 12, 1);
        SumWalker x = new SumWalker();
        Due.ok(x, "rings(6, 28, 1, 0): the first one", x.rings(6, 28, 1, 0), 6);
        Due.ok(x, "rings(6, 28, 1, 1): the last one", x.rings(6, 28, 1, 1), 28);
        Due.no(x, "rings(6, 28, 1, 2)", x.rings(6, 28, 1, 2), Due.NOTHING);
        Due.ok(x, "rings(7, 27, 1, NONE)", x.rings(7, 27, 1, NONE), 0);
    }

    /** Of the L from 1 to 30 one alone has n as a RING, or none (0). */
    private static void ring(int law, int n, int due) {
        SumWalker x = Due.desk("bound 1;steps 1;");
        x.rule(2, law);
        for (int length = 1; length <= 30; length++) {
            String call = "rings(" + n + ", " + n + ", " + length + ", ";
            Due.ok(x, call + "NONE) by " + law, x.rings(n, n, length, NONE), length == due ? 1 : 0);
            if (length == due) {
                Due.ok(x, call + "0) by " + law, x.rings(n, n, length, 0), n);
            } else {
                Due.no(x, call + "0) by " + law, x.rings(n, n, length, 0), Due.NOTHING);
            }
        }
    }

    private static void shapes() {
        terms("SHAPE of a number: how often it has its primes, falling");
        SumWalker x = new SumWalker();
        Due.ok(x, "same(1, 1)", x.same(1, 1), 1);
        Due.ok(x, "same(1, 2)", x.same(1, 2), 0);
        Due.ok(x, "same(12, 45)", x.same(12, 45), 1);
        Due.ok(x, "same(12, 30)", x.same(12, 30), 0);
        Due.ok(x, "same(4, 999002449)", x.same(4, 999_002_449), 1);
        Due.ok(x, "same(999999937, 2)", x.same(999_999_937, 2), 1);
        Due.ok(x, "same(223092870, 223092870)", x.same(223_092_870, 223_092_870), 1);
        Due.ok(x, "same(72, 108)", x.same(72, 108), 1);
        Due.ok(x, "same(72, 36)", x.same(72, 36), 0);
        Due.ok(x, "same(16, 120)", x.same(16, 120), 0);
        Due.ok(x, "same(32, 16)", x.same(32, 16), 0);
        int[][] turned = {{18, 12}, {75, 12}, {54, 24}, {90, 60}, {150, 60}, {540, 600}, {1, 1}, {250, 40}};
        for (int[] one : turned) {
            // On a new object, and behind SHAPES with more of each prime.
            SumWalker y = new SumWalker();
            Due.ok(y, "same(" + one[0] + ", " + one[1] + ")", y.same(one[0], one[1]), 1);
            SumWalker z = new SumWalker();
            Due.ok(z, "same(27000, 27000)", z.same(27_000, 27_000), 1);
            Due.ok(z, "same(" + one[0] + ", " + one[1] + ") then", z.same(one[0], one[1]), 1);
        }
        Due.promise(48);
        Due.sentence("of several SHAPES the one whose least number is least");
        Due.ok(x, "shapes(1, 1, 0)", x.shapes(1, 1, 0), 1);
        Due.ok(x, "shapes(1, 1, 1)", x.shapes(1, 1, 1), 1);
        Due.ok(x, "shapes(1, 1, 2)", x.shapes(1, 1, 2), 1);
        Due.ok(x, "shapes(1, 2, 2)", x.shapes(1, 2, 2), 1);
        Due.ok(x, "shapes(1, 3, 2)", x.shapes(1, 3, 2), 2);
        // 8; 9 4; 6 10: two SHAPES with two numbers each.
        Due.ok(x, "shapes(8, 10, 2)", x.shapes(8, 10, 2), 8);
        Due.ok(x, "shapes(4, 10, 2)", x.shapes(4, 10, 2), 4);
        Due.ok(x, "shapes(999999999, 999999999, 2)", x.shapes(TOP, TOP, 2), TOP);
    }

    private static void euler() {
        terms("EULER's rule by k and m (m below k). It HOLDS if p, q, r are primes");
        SumWalker x = new SumWalker();
        for (int k = 2; k <= 9; k++) {
            for (int m = 1; m < k; m++) {
                long f = (1L << k - m) + 1;
                long p = (1L << m) * f - 1;
                long q = (1L << k) * f - 1;
                long r = (1L << k + m) * f * f - 1;
                boolean holds = Model.isPrime((int) p) && Model.isPrime((int) q) && Model.isPrime((int) r);
                String call = "euler(" + k + ", " + m + ", ";
                Due.ok(x, call + "0)", x.euler(k, m, 0), holds ? 1 : 0);
                Due.ok(x, call + "1)", x.euler(k, m, 1), p);
                Due.ok(x, call + "2)", x.euler(k, m, 2), q);
                Due.ok(x, call + "3)", x.euler(k, m, 3), r);
                if (holds) {
                    Due.ok(x, call + "4)", x.euler(k, m, 4), (1L << k) * p * q);
                    Due.ok(x, call + "5)", x.euler(k, m, 5), (1L << k) * r);
                } else {
                    Due.no(x, call + "4)", x.euler(k, m, 4), Due.NOTHING);
                    Due.no(x, call + "5)", x.euler(k, m, 5), Due.NOTHING);
                }
            }
        }
    }

    // ---- acts

    private static void acts() {
        terms("UNDO: the latest one not undone yet goes back; 8 are kept; load() forgets them");
        for (int done = 0; done <= 10; done++) {
            SumWalker x = Due.desk("row a 1;");
            for (int n = 2; n <= done + 1; n++) {
                Due.ok(x, "retell(0, " + n + ")", x.retell(0, n), n - 1);
            }
            int kept = Math.min(8, done);
            Due.ok(x, "many(4) behind " + done + " ACTS", x.many(4), kept);
            for (int undone = 1; undone <= kept; undone++) {
                Due.ok(x, "undo() behind " + done + " ACTS", x.undo(), kept - undone);
                Due.ok(x, "row(0)", x.row(0), done + 1 - undone);
            }
            Due.no(x, "undo() of one more", x.undo(), Due.NOTHING);
            Due.ok(x, "row(0) stays", x.row(0), done + 1 - kept);
            Due.ok(x, "many(4)", x.many(4), 0);
        }
        SumWalker x = Due.desk("row a 1;");
        for (int n = 2; n <= 9; n++) {
            x.retell(0, n);
        }
        for (int i = 0; i < 5; i++) {
            x.undo();
        }
        Due.ok(x, "row(0) with three ACTS left", x.row(0), 4);
        for (int n = 20; n < 26; n++) {
            x.retell(0, n);
        }
        Due.ok(x, "many(4): 8 again, the ninth is gone", x.many(4), 8);
        for (int left = 7; left >= 0; left--) {
            Due.ok(x, "undo()", x.undo(), left);
        }
        Due.ok(x, "row(0)", x.row(0), 2);
        x.retell(0, 30);
        Due.ok(x, "load(0)", x.load(0), 0);
        Due.ok(x, "many(4) behind load()", x.many(4), 0);
        Due.no(x, "undo() behind load()", x.undo(), Due.NOTHING);
        x.put(7);
        Due.no(x, "load(1) of an empty tape", x.load(1), Due.WRONG);
        Due.ok(x, "many(4): a refused load() forgets none", x.many(4), 1);
        Due.no(x, "load of a FAULT", Due.load(x, "row"), Due.FAULTY);
        Due.ok(x, "many(4): one with 9 forgets none", x.many(4), 1);
        Due.ok(x, "undo()", x.undo(), 0);
        Due.ok(x, "many(0)", x.many(0), 0);
    }

    private static void actsByEachCall() {
        terms("ACTS: put(), retell(), drop(), follow(), trade(), rule()");
        Due.Call[] each = {(x, n) -> x.put(5), (x, n) -> x.retell(1, 5), (x, n) -> x.drop(0), (x, n) -> x.drop(4),
            (x, n) -> x.follow(0), (x, n) -> x.trade(0, 4), (x, n) -> x.rule(0, 7), (x, n) -> x.rule(1, 7),
            (x, n) -> x.rule(2, 3)};
        for (int i = 0; i < each.length; i++) {
            SumWalker x = Due.desk("row a 12;row b 220;row c 138;row d 25;row e 1;");
            each[i].ask(x, 0);
            Due.ok(x, "many(4) behind ACT " + i, x.many(4), 1);
            Due.ok(x, "undo() of ACT " + i, x.undo(), 0);
            String due = State.of(Due.desk("row a 12;row b 220;row c 138;row d 25;row e 1;"));
            Due.is("all is as ahead of ACT " + i, State.of(x).equals(due) ? 1 : 0, 1);
        }
        Due.Call[] none = {(x, n) -> x.print(0), (x, n) -> x.out(0), (x, n) -> x.undo(), (x, n) -> x.fault(0),
            (x, n) -> x.feed(0, 0, 0, 0, 0), (x, n) -> x.splits(0, 1, 0), (x, n) -> x.put(0), (x, n) -> x.retell(0, 12),
            (x, n) -> x.drop(5), (x, n) -> x.follow(4), (x, n) -> x.trade(1, 1), (x, n) -> x.rule(0, 100_000)};
        for (int i = 0; i < none.length; i++) {
            SumWalker x = Due.desk("row a 12;row b 220;row c 138;row d 25;row e 1;");
            none[i].ask(x, 0);
            Due.ok(x, "many(4) behind what is no ACT, " + i, x.many(4), 0);
        }
    }
}
