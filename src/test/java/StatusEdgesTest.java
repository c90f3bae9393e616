import java.util.HashMap;
import java.util.Map;
import java.util.function.ToLongFunction;

/**
 * Terms 3, for each promise: the least and the greatest that each number can be and one beyond each, ROWS that are and
 * are not, which STATUS comes first where two hold, and that a refused call gives NONE and leaves all as it was.
 */
public final class StatusEdgesTest {
    private static final int TOP = 999_999_999;
    private static final int MIN = Integer.MIN_VALUE;
    private static final int MAX = Integer.MAX_VALUE;
    private static final int NONE = SumWalker.NONE;
    /** What is seen of State.with() so many ROWS. */
    private static final Map<Integer, String> SEEN = new HashMap<>();

    public static void main(String[] args) {
        numbersAsked();
        numbersWithTheirOwnRange();
        whichOnes();
        whats();
        ranges();
        rowNumbers();
        otherRow();
        listed();
        oneAheadOfTwo();
        oneAheadOfOthers();
        twoAheadOfOthers();
        fourAheadOfFive();
        whatAsksLeave();
        Due.end();
    }

    // ---- how it is checked

    private static String seenWith(int rows) {
        return SEEN.computeIfAbsent(rows, r -> State.of(State.with(r)));
    }

    /** The call gives NONE and that STATUS, and leaves all as it was. */
    private static void refused(String name, int rows, int status, ToLongFunction<SumWalker> call) {
        SumWalker x = State.with(rows);
        Due.no(x, name, call.applyAsLong(x), status);
        leaves(name, x, rows);
    }

    private static void leaves(String name, SumWalker x, int rows) {
        String now = State.of(x);
        boolean same = now.equals(seenWith(rows));
        Due.is(name + " leaves all as it was: " + (same ? "" : now + " not " + seenWith(rows)), same ? 1 : 0, 1);
    }

    private static void refused(String name, int rows, int status, Due.Call call, int... numbers) {
        for (int n : numbers) {
            refused(name + " with " + n, rows, status, x -> call.ask(x, n));
        }
    }

    /** The number can be from least to greatest, both of them, too; no other can be. */
    private static void can(String name, int least, int greatest, Due.Call call) {
        for (int n : new int[] {least, greatest}) {
            SumWalker x = State.with(5);
            call.ask(x, n);
            Due.is(name + " with " + n + " is a number that can be", x.status() != Due.WRONG ? 1 : 0, 1);
        }
        if (least > MIN) {
            refused(name, 5, Due.WRONG, call, least - 1, MIN);
        }
        if (greatest < MAX) {
            refused(name, 5, Due.WRONG, call, greatest + 1, MAX);
        }
    }

    private static void number(int promise, String name, Due.Call call) {
        Due.promise(promise);
        Due.sentence("Numbers asked of are 1 to 999,999,999 (else 1)");
        can(name, 1, TOP, call);
    }

    // ---- 1

    private static void numbersAsked() {
        number(7, "factor(n, NONE, 0)", (x, n) -> x.factor(n, NONE, 0));
        number(8, "sum(n)", SumWalker::sum);
        number(9, "kind(n)", SumWalker::kind);
        number(10, "guide(n, 0)", (x, n) -> x.guide(n, 0));
        number(11, "divisor(n, NONE)", (x, n) -> x.divisor(n, NONE));
        number(13, "index(n, 0)", (x, n) -> x.index(n, 0));
        number(14, "part(n, 0)", (x, n) -> x.part(n, 0));
        number(15, "kin(n, 1, 2, NONE)", (x, n) -> x.kin(n, 1, 2, NONE));
        number(20, "practical(n)", SumWalker::practical);
        number(21, "ladder(n, NONE)", (x, n) -> x.ladder(n, NONE));
        number(22, "mean(n, false, 0)", (x, n) -> x.mean(n, false, 0));
        number(22, "mean(n, true, 1)", (x, n) -> x.mean(n, true, 1));
        number(24, "primitive(n)", SumWalker::primitive);
        number(49, "same(n, 6)", (x, n) -> x.same(n, 6));
        number(49, "same(6, n)", (x, n) -> x.same(6, n));
        number(51, "put(n)", SumWalker::put);
        number(52, "retell(0, n)", (x, n) -> x.retell(0, n));
        number(56, "rule(0, n)", (x, n) -> x.rule(0, n));
    }

    private static void own(int promise, String sentence, String name, int least, int greatest, Due.Call call) {
        Due.promise(promise);
        Due.sentence(sentence);
        can(name, least, greatest, call);
    }

    private static void numbersWithTheirOwnRange() {
        own(4, "1: n below 0, above what the tape has", "load(n)", 0, 40, SumWalker::load);
        own(12, "a number (1 to 3,000)", "whole(n)", 1, 3000, SumWalker::whole);
        own(17, "n (from 0 on)", "before(n, 30, 0)", 0, MAX, (x, n) -> x.before(n, 30, 0));
        own(17, "m (1 to 2,000)", "before(1, m, 0)", 1, 2000, (x, m) -> x.before(1, m, 0));
        own(18, "m (1 to 500)", "families(m, 0)", 1, 500, (x, m) -> x.families(m, 0));
        own(19, "m (1 to 2,000)", "record(m, NONE)", 1, 2000, (x, m) -> x.record(m, NONE));
        own(23, "n (1 to 500)", "untouched(n, 2000, 0)", 1, 500, (x, n) -> x.untouched(n, 2000, 0));
        own(23, "m (1 to 2,000)", "untouched(500, m, 0)", 1, 2000, (x, m) -> x.untouched(500, m, 0));
        own(25, "n (0 to 2,000)", "depth(n, 500)", 0, 2000, (x, n) -> x.depth(n, 500));
        own(25, "m (1 to 500)", "depth(1, m)", 1, 500, (x, m) -> x.depth(1, m));
        own(26, "p 2 to 15", "euclid(p, 0)", 2, 15, (x, p) -> x.euclid(p, 0));
        own(27, "n from 0 on", "touched(n, 2000, 0)", 0, MAX, (x, n) -> x.touched(n, 2000, 0));
        own(27, "m (1 to 2,000)", "touched(1, m, 0)", 1, 2000, (x, m) -> x.touched(1, m, 0));
        own(38, "1: no such LAW", "splits(0, law, 1)", 0, 3, (x, law) -> x.splits(0, law, 1));
        own(45, "RINGS of L numbers (1 to 30)", "rings(1, 51, L, NONE)", 1, 30, (x, l) -> x.rings(1, 51, l, NONE));
        own(47, "1: many below 1, too", "lengths(1, 51, many)", 1, MAX, (x, many) -> x.lengths(1, 51, many));
        own(50, "k (2 to 9)", "euler(k, 1, 0)", 2, 9, (x, k) -> x.euler(k, 1, 0));
        for (int k = 2; k <= 9; k++) {
            int one = k;
            own(50, "m (1 to k less 1)", "euler(" + k + ", m, 0)", 1, k - 1, (x, m) -> x.euler(one, m, 0));
        }
        own(56, "as a text could tell", "rule(1, v)", 1, 100, (x, v) -> x.rule(1, v));
        own(56, "LAW by its number", "rule(2, v)", 0, 3, (x, v) -> x.rule(2, v));
    }

    private static void whichOnes() {
        own(7, "1: i below NONE", "factor(6, i, 0)", NONE, MAX, (x, i) -> x.factor(6, i, 0));
        own(11, "1: k below NONE", "divisor(6, k)", NONE, MAX, (x, k) -> x.divisor(6, k));
        own(14, "1: i below 0", "part(6, i)", 0, MAX, (x, i) -> x.part(6, i));
        own(15, "1: k below NONE", "kin(6, 1, 501, k)", NONE, MAX, (x, k) -> x.kin(6, 1, 501, k));
        own(17, "the k-th (rising, from 0 on)", "before(6, 30, k)", 0, MAX, (x, k) -> x.before(6, 30, k));
        own(19, "k NONE", "record(6, k)", NONE, MAX, (x, k) -> x.record(6, k));
        own(21, "1: k below NONE", "ladder(6, k)", NONE, MAX, (x, k) -> x.ladder(6, k));
        own(29, "1: k below NONE", "value(0, k)", NONE, MAX, (x, k) -> x.value(0, k));
        own(35, "1: k below 0", "growth(0, k)", 0, MAX, (x, k) -> x.growth(0, k));
        own(39, "1: k below 1", "lost(0, k)", 1, MAX, (x, k) -> x.lost(0, k));
        own(44, "1: k below NONE", "mates(1, 501, k, 0)", NONE, MAX, (x, k) -> x.mates(1, 501, k, 0));
        own(45, "1: k below NONE", "rings(1, 51, 1, k)", NONE, MAX, (x, k) -> x.rings(1, 51, 1, k));
        own(58, "1: below 0", "out(i)", 0, MAX, SumWalker::out);
    }

    private static void what(int promise, String name, int last, Due.Call call) {
        own(promise, "what 0 to " + last, name, 0, last, call);
    }

    private static void whats() {
        what(6, "many(what)", 4, SumWalker::many);
        what(7, "factor(6, 0, what)", 1, (x, what) -> x.factor(6, 0, what));
        what(7, "factor(6, NONE, what): with NONE too", 1, (x, what) -> x.factor(6, NONE, what));
        what(10, "guide(6, what)", 3, (x, what) -> x.guide(6, what));
        what(13, "index(6, what)", 1, (x, what) -> x.index(6, what));
        what(16, "kins(1, 30, what)", 2, (x, what) -> x.kins(1, 30, what));
        what(18, "families(30, what)", 3, (x, what) -> x.families(30, what));
        what(22, "mean(6, false, what)", 1, (x, what) -> x.mean(6, false, what));
        what(22, "mean(6, true, what)", 1, (x, what) -> x.mean(6, true, what));
        what(23, "untouched(30, 30, what)", 1, (x, what) -> x.untouched(30, 30, what));
        what(26, "euclid(3, what)", 2, (x, what) -> x.euclid(3, what));
        what(27, "touched(6, 30, what)", 1, (x, what) -> x.touched(6, 30, what));
        what(31, "round(1, what)", 2, (x, what) -> x.round(1, what));
        what(32, "peak(0, what)", 1, (x, what) -> x.peak(0, what));
        what(33, "climb(0, what)", 1, (x, what) -> x.climb(0, what));
        what(34, "total(0, what)", 2, (x, what) -> x.total(0, what));
        what(36, "kept(2, what)", 3, (x, what) -> x.kept(2, what));
        what(37, "guides(2, what)", 2, (x, what) -> x.guides(2, what));
        what(38, "splits(0, 1, what)", 3, (x, what) -> x.splits(0, 1, what));
        what(40, "duel(0, 1, what)", 3, (x, what) -> x.duel(0, 1, what));
        what(41, "meets(3, 4, what)", 2, (x, what) -> x.meets(3, 4, what));
        what(43, "counts(1, 30, what)", 4, (x, what) -> x.counts(1, 30, what));
        what(44, "mates(1, 300, 0, what)", 1, (x, what) -> x.mates(1, 300, 0, what));
        what(44, "mates(1, 300, NONE, what): with NONE too", 1, (x, what) -> x.mates(1, 300, NONE, what));
        what(46, "rows(1, 30, what)", 6, (x, what) -> x.rows(1, 30, what));
        what(48, "shapes(1, 30, what)", 2, (x, what) -> x.shapes(1, 30, what));
        what(50, "euler(2, 1, what)", 5, (x, what) -> x.euler(2, 1, what));
        what(56, "rule(what, 3)", 2, (x, what) -> x.rule(what, 3));
    }

    /** A call of a RANGE. */
    private interface Ranged {
        long ask(SumWalker x, int from, int to);
    }

    private static void range(int promise, String name, int apart, Ranged call) {
        Due.promise(promise);
        Due.sentence("a RANGE from one to another one: not below it, at most " + apart + " apart (else 1)");
        can(name + " from .. to 2000", 2000 - apart, 2000, (x, from) -> call.ask(x, from, 2000));
        can(name + " from 2000 to ..", 2000, 2000 + apart, (x, to) -> call.ask(x, 2000, to));
        can(name + " from .. to apart", 1, apart, (x, from) -> call.ask(x, from, apart));
        can(name + " from .. to 1 and apart", 1, apart + 1, (x, from) -> call.ask(x, from, apart + 1));
        can(name + " from .. to the greatest", TOP - apart, TOP, (x, from) -> call.ask(x, from, TOP));
        can(name + " from the greatest to ..", TOP, TOP, (x, to) -> call.ask(x, TOP, to));
        can(name + " from 1 to ..", 1, apart + 1, (x, to) -> call.ask(x, 1, to));
        refused(name + " of all ints", 5, Due.WRONG, x -> call.ask(x, MIN, MAX));
        refused(name + " the wrong way round", 5, Due.WRONG, x -> call.ask(x, MAX, MIN));
        refused(name + " of 0 alone", 5, Due.WRONG, x -> call.ask(x, 0, 0));
        refused(name + " of -5 to -1", 5, Due.WRONG, x -> call.ask(x, -5, -1));
        refused(name + " of one above the greatest alone", 5, Due.WRONG, x -> call.ask(x, TOP + 1, TOP + 1));
        refused(name + " of the greatest int alone", 5, Due.WRONG, x -> call.ask(x, MAX, MAX));
    }

    private static void ranges() {
        range(15, "kin", 500, (x, from, to) -> x.kin(6, from, to, NONE));
        range(16, "kins", 200, (x, from, to) -> x.kins(from, to, 0));
        range(43, "counts", 500, (x, from, to) -> x.counts(from, to, 0));
        range(44, "mates", 500, (x, from, to) -> x.mates(from, to, NONE, 0));
        range(45, "rings", 50, (x, from, to) -> x.rings(from, to, 1, NONE));
        range(46, "rows", 50, (x, from, to) -> x.rows(from, to, 4));
        range(47, "lengths", 50, (x, from, to) -> x.lengths(from, to, 1));
        range(48, "shapes", 200, (x, from, to) -> x.shapes(from, to, 0));
    }

    // ---- 2

    private static void row(int promise, String name, Due.Call call) {
        Due.promise(promise);
        Due.sentence("2 no such ROW");
        for (int rows = 0; rows <= 6; rows++) {
            for (int r = 0; r < rows; r++) {
                SumWalker x = State.with(rows);
                call.ask(x, r);
                Due.is(name + " of ROW " + r + " of " + rows, x.status() == Due.NO_ROW ? 1 : 0, 0);
            }
            refused(name + ", ROWS: " + rows, rows, Due.NO_ROW, call, rows, rows + 1, 6, -1, MIN, MAX);
        }
    }

    private static void rowNumbers() {
        row(28, "row(r)", SumWalker::row);
        row(29, "value(r, NONE)", (x, r) -> x.value(r, NONE));
        row(29, "value(r, 0)", (x, r) -> x.value(r, 0));
        row(30, "ends(r)", SumWalker::ends);
        row(31, "round(r, 0)", (x, r) -> x.round(r, 0));
        row(32, "peak(r, 0)", (x, r) -> x.peak(r, 0));
        row(33, "climb(r, 0)", (x, r) -> x.climb(r, 0));
        row(34, "total(r, 0)", (x, r) -> x.total(r, 0));
        row(35, "growth(r, 0)", (x, r) -> x.growth(r, 0));
        row(36, "kept(r, 0)", (x, r) -> x.kept(r, 0));
        row(37, "guides(r, 0)", (x, r) -> x.guides(r, 0));
        row(38, "splits(r, 1, 0)", (x, r) -> x.splits(r, 1, 0));
        row(39, "lost(r, 1)", (x, r) -> x.lost(r, 1));
        row(42, "alike(r)", SumWalker::alike);
        row(52, "retell(r, 5)", (x, r) -> x.retell(r, 5));
        row(53, "drop(r)", SumWalker::drop);
        row(54, "follow(r)", SumWalker::follow);
        row(57, "print(r)", SumWalker::print);
    }

    private static void pair(int promise, String name, Ranged call) {
        Due.promise(promise);
        Due.sentence("2 no such ROW, of two");
        int[] no = {4, 5, 6, -1, MIN, MAX};
        refused(name + " first one", 4, Due.NO_ROW, (x, r) -> (int) call.ask(x, r, 0), no);
        refused(name + " other one", 4, Due.NO_ROW, (x, r) -> (int) call.ask(x, 0, r), no);
        refused(name + " both", 4, Due.NO_ROW, (x, r) -> (int) call.ask(x, r, r), no);
        refused(name + " of no ROWS", 0, Due.NO_ROW, x -> call.ask(x, 0, 1));
        for (int r = 0; r < 6; r++) {
            for (int other = 0; other < 6; other++) {
                SumWalker x = State.with(6);
                call.ask(x, r, other);
                Due.is(name + " of " + r + ", " + other + " gives 4", x.status() == Due.ALREADY ? 1 : 0, r == other ? 1 : 0);
                Due.is(name + " of " + r + ", " + other + " gives 2", x.status() == Due.NO_ROW ? 1 : 0, 0);
            }
            int one = r;
            Due.sentence("4: one and itself");
            refused(name + " of " + r + " and itself", 6, Due.ALREADY, x -> call.ask(x, one, one));
        }
    }

    private static void otherRow() {
        pair(40, "duel", (x, r, other) -> x.duel(r, other, 0));
        pair(41, "meets", (x, r, other) -> x.meets(r, other, 0));
        pair(55, "trade", SumWalker::trade);
    }

    // ---- 3, 4, 5, 9

    private static void listed(int promise, String sentence, String name, int rows, int status,
        ToLongFunction<SumWalker> call) {
        Due.promise(promise);
        Due.sentence(sentence);
        refused(name, rows, status, call);
    }

    /** ROWS: 12 16 15 9 4 3 1 0; 220 284; 138 to BEYOND or LONG; 25 6; 6; 1 0. */
    private static void listed() {
        listed(7, "5: not so many", "factor(6, 2, 0)", 5, Due.NOTHING, x -> x.factor(6, 2, 0));
        listed(7, "5: not so many", "factor(1, 0, 1)", 5, Due.NOTHING, x -> x.factor(1, 0, 1));
        listed(10, "5: n is odd", "guide(1, 0)", 5, Due.NOTHING, x -> x.guide(1, 0));
        listed(10, "5: n is odd", "guide(999999999, 3)", 5, Due.NOTHING, x -> x.guide(TOP, 3));
        listed(11, "5: not so many", "divisor(6, 4)", 5, Due.NOTHING, x -> x.divisor(6, 4));
        listed(11, "5: not so many", "divisor(1, 1)", 5, Due.NOTHING, x -> x.divisor(1, 1));
        listed(14, "5: not so many", "part(6, 2)", 5, Due.NOTHING, x -> x.part(6, 2));
        listed(14, "5: not so many", "part(1, 0)", 5, Due.NOTHING, x -> x.part(1, 0));
        listed(15, "5: not so many", "kin(6, 1, 30, 1)", 5, Due.NOTHING, x -> x.kin(6, 1, 30, 1));
        listed(15, "5: not so many", "kin(6, 6, 6, 0)", 5, Due.NOTHING, x -> x.kin(6, 6, 6, 0));
        listed(16, "5 of 2: none has any", "kins(7, 27, 2)", 5, Due.NOTHING, x -> x.kins(7, 27, 2));
        listed(17, "5: not so many", "before(6, 25, 2)", 5, Due.NOTHING, x -> x.before(6, 25, 2));
        listed(17, "5: not so many", "before(2, 2000, 0)", 5, Due.NOTHING, x -> x.before(2, 2000, 0));
        listed(19, "5: not so many", "record(1, 1)", 5, Due.NOTHING, x -> x.record(1, 1));
        listed(21, "5: not so many", "ladder(2, 1)", 5, Due.NOTHING, x -> x.ladder(2, 1));
        listed(23, "5 of 1: none", "untouched(1, 2, 1)", 5, Due.NOTHING, x -> x.untouched(1, 2, 1));
        listed(27, "5 of 1: none", "touched(2, 2000, 1)", 5, Due.NOTHING, x -> x.touched(2, 2000, 1));
        listed(29, "5: not so many", "value(0, 8)", 5, Due.NOTHING, x -> x.value(0, 8));
        listed(29, "5: not so many", "value(4, 1)", 5, Due.NOTHING, x -> x.value(4, 1));
        for (int what = 0; what < 3; what++) {
            int one = what;
            listed(31, "5: it ENDS otherwise", "round(0, " + what + ")", 5, Due.NOTHING, x -> x.round(0, one));
            listed(31, "5: it ENDS otherwise", "round(2, " + what + ")", 5, Due.NOTHING, x -> x.round(2, one));
        }
        listed(35, "5: no next one in the ROW", "growth(0, 7)", 5, Due.NOTHING, x -> x.growth(0, 7));
        listed(35, "5: no next one in the ROW", "growth(1, 1)", 5, Due.NOTHING, x -> x.growth(1, 1));
        listed(35, "5: no next one in the ROW", "growth(4, 0)", 5, Due.NOTHING, x -> x.growth(4, 0));
        listed(36, "2: 5: none", "kept(0, 2)", 5, Due.NOTHING, x -> x.kept(0, 2));
        listed(37, "5 of 1, 2: none", "guides(5, 1)", 6, Due.NOTHING, x -> x.guides(5, 1));
        listed(37, "5 of 1, 2: none", "guides(5, 2)", 6, Due.NOTHING, x -> x.guides(5, 2));
        for (int what = 0; what < 4; what++) {
            int one = what;
            listed(38, "4: it is LAW", "splits(0, 0, " + what + ")", 5, Due.ALREADY, x -> x.splits(0, 0, one));
        }
        listed(38, "5 of 0: they are alike", "splits(4, 1, 0)", 5, Due.NOTHING, x -> x.splits(4, 1, 0));
        listed(39, "5: the ROW has not so many PLACES", "lost(0, 8)", 5, Due.NOTHING, x -> x.lost(0, 8));
        listed(39, "5: the ROW has not so many PLACES", "lost(4, 1)", 5, Due.NOTHING, x -> x.lost(4, 1));
        for (int what = 0; what < 3; what++) {
            int one = what;
            listed(41, "5: none", "meets(0, 1, " + what + ")", 5, Due.NOTHING, x -> x.meets(0, 1, one));
        }
        listed(44, "5: not so many", "mates(1, 300, 1, 0)", 5, Due.NOTHING, x -> x.mates(1, 300, 1, 0));
        listed(44, "5: not so many", "mates(1, 219, 0, 1)", 5, Due.NOTHING, x -> x.mates(1, 219, 0, 1));
        listed(45, "5: not so many", "rings(1, 51, 1, 2)", 5, Due.NOTHING, x -> x.rings(1, 51, 1, 2));
        listed(50, "5 of 4, 5: it does not", "euler(3, 1, 4)", 5, Due.NOTHING, x -> x.euler(3, 1, 4));
        listed(50, "5 of 4, 5: it does not", "euler(9, 8, 5)", 5, Due.NOTHING, x -> x.euler(9, 8, 5));
        listed(51, "3: there are 6", "put(1)", 6, Due.TOO_MANY, x -> x.put(1));
        listed(52, "4", "retell(0, 12)", 5, Due.ALREADY, x -> x.retell(0, 12));
        listed(52, "4", "retell(4, 6)", 5, Due.ALREADY, x -> x.retell(4, 6));
        listed(54, "5: it has one VALUE alone", "follow(4)", 5, Due.NOTHING, x -> x.follow(4));
        listed(54, "5: the second one is 0", "follow(5)", 6, Due.NOTHING, x -> x.follow(5));
        listed(56, "4", "rule(0, 40000)", 5, Due.ALREADY, x -> x.rule(0, 40_000));
        listed(56, "4", "rule(1, 20)", 5, Due.ALREADY, x -> x.rule(1, 20));
        listed(56, "4", "rule(2, 0)", 5, Due.ALREADY, x -> x.rule(2, 0));
        listed(58, "5: OUT has not so many", "out(28)", 5, Due.NOTHING, x -> x.out(28));
        listed(58, "5: there is none yet", "out(0)", 0, Due.NOTHING, x -> x.out(0));
        Due.promise(59);
        Due.sentence("5");
        SumWalker x = Due.desk("row a 12;");
        Due.no(x, "undo()", x.undo(), Due.NOTHING);
        Due.ok(x, "many(0)", x.many(0), 1);
        Due.promise(4);
        Due.sentence("9 a FAULT");
        Due.no(x, "load(1) of no TOKEN", Due.load(x, "#"), Due.FAULTY);
    }

    // ---- which one comes first

    private static void first(int promise, String name, int rows, int status, ToLongFunction<SumWalker> call) {
        listed(promise, "STATUS of a call is the first of these that holds", name, rows, status, call);
    }

    private static void oneAheadOfTwo() {
        int[] no = {5, 6, -1, MIN, MAX};
        for (int r : no) {
            String of = "(" + r + ", ";
            first(29, "value" + of + "-2)", 5, Due.WRONG, x -> x.value(r, -2));
            first(31, "round" + of + "3)", 5, Due.WRONG, x -> x.round(r, 3));
            first(32, "peak" + of + "2)", 5, Due.WRONG, x -> x.peak(r, 2));
            first(33, "climb" + of + "2)", 5, Due.WRONG, x -> x.climb(r, 2));
            first(34, "total" + of + "3)", 5, Due.WRONG, x -> x.total(r, 3));
            first(35, "growth" + of + "-1)", 5, Due.WRONG, x -> x.growth(r, -1));
            first(36, "kept" + of + "4)", 5, Due.WRONG, x -> x.kept(r, 4));
            first(37, "guides" + of + "3)", 5, Due.WRONG, x -> x.guides(r, 3));
            first(38, "splits" + of + "4, 0)", 5, Due.WRONG, x -> x.splits(r, 4, 0));
            first(38, "splits" + of + "1, 4)", 5, Due.WRONG, x -> x.splits(r, 1, 4));
            first(39, "lost" + of + "0)", 5, Due.WRONG, x -> x.lost(r, 0));
            first(40, "duel" + of + "0, 4)", 5, Due.WRONG, x -> x.duel(r, 0, 4));
            first(40, "duel(0, " + r + ", -1)", 5, Due.WRONG, x -> x.duel(0, r, -1));
            first(41, "meets" + of + "0, 3)", 5, Due.WRONG, x -> x.meets(r, 0, 3));
            first(41, "meets(0, " + r + ", -1)", 5, Due.WRONG, x -> x.meets(0, r, -1));
            first(52, "retell" + of + "0)", 5, Due.WRONG, x -> x.retell(r, 0));
        }
    }

    private static void oneAheadOfOthers() {
        first(4, "load(41): 1 ahead of 9", 5, Due.WRONG, x -> x.load(41));
        first(7, "factor(6, 5, 2)", 5, Due.WRONG, x -> x.factor(6, 5, 2));
        first(10, "guide(7, 4)", 5, Due.WRONG, x -> x.guide(7, 4));
        first(10, "guide(-7, 0)", 5, Due.WRONG, x -> x.guide(-7, 0));
        first(16, "kins(1, 5, 3)", 5, Due.WRONG, x -> x.kins(1, 5, 3));
        first(23, "untouched(1, 2, 2)", 5, Due.WRONG, x -> x.untouched(1, 2, 2));
        first(27, "touched(2, 2000, 2)", 5, Due.WRONG, x -> x.touched(2, 2000, 2));
        first(31, "round(0, 3): no ROUND", 5, Due.WRONG, x -> x.round(0, 3));
        first(36, "kept(0, 4): no DRIVER", 5, Due.WRONG, x -> x.kept(0, 4));
        first(37, "guides(5, 3): no GUIDE", 6, Due.WRONG, x -> x.guides(5, 3));
        first(38, "splits(0, 0, 4): it is LAW", 5, Due.WRONG, x -> x.splits(0, 0, 4));
        first(40, "duel(0, 0, 4): itself", 5, Due.WRONG, x -> x.duel(0, 0, 4));
        first(41, "meets(0, 0, 3): itself", 5, Due.WRONG, x -> x.meets(0, 0, 3));
        first(41, "meets(0, 1, 3): they don't", 5, Due.WRONG, x -> x.meets(0, 1, 3));
        first(44, "mates(1, 219, 0, 2)", 5, Due.WRONG, x -> x.mates(1, 219, 0, 2));
        first(45, "rings(1, 5, 31, 0)", 5, Due.WRONG, x -> x.rings(1, 5, 31, 0));
        first(50, "euler(3, 1, 6)", 5, Due.WRONG, x -> x.euler(3, 1, 6));
        first(51, "put(0): 1 ahead of 3", 6, Due.WRONG, x -> x.put(0));
        first(51, "put(1000000000): 1 ahead of 3", 6, Due.WRONG, x -> x.put(TOP + 1));
        first(56, "rule(3, 0)", 5, Due.WRONG, x -> x.rule(3, 0));
    }

    private static void twoAheadOfOthers() {
        for (int r : new int[] {5, -1, MAX}) {
            first(29, "value(" + r + ", 99)", 5, Due.NO_ROW, x -> x.value(r, 99));
            first(35, "growth(" + r + ", 99)", 5, Due.NO_ROW, x -> x.growth(r, 99));
            first(38, "splits(" + r + ", 0, 0): 2 ahead of 4", 5, Due.NO_ROW, x -> x.splits(r, 0, 0));
            first(39, "lost(" + r + ", 99)", 5, Due.NO_ROW, x -> x.lost(r, 99));
            first(40, "duel(" + r + ", " + r + ", 0): 2 ahead of 4", 5, Due.NO_ROW, x -> x.duel(r, r, 0));
            first(41, "meets(" + r + ", " + r + ", 0): 2 ahead of 4", 5, Due.NO_ROW, x -> x.meets(r, r, 0));
            first(55, "trade(" + r + ", " + r + "): 2 ahead of 4", 5, Due.NO_ROW, x -> x.trade(r, r));
        }
    }

    private static void fourAheadOfFive() {
        // A ROW is alike itself, so both hold.
        first(38, "splits(0, 0, 0)", 5, Due.ALREADY, x -> x.splits(0, 0, 0));
        first(38, "splits(4, 0, 0)", 5, Due.ALREADY, x -> x.splits(4, 0, 0));
        first(41, "meets(4, 4, 0)", 5, Due.ALREADY, x -> x.meets(4, 4, 0));
    }

    // ---- what is asked alone

    private static void asks(int promise, String name, ToLongFunction<SumWalker> call) {
        Due.promise(promise);
        Due.sentence("Nothing is promised beyond the answers and state changes described above");
        SumWalker x = State.with(6);
        call.applyAsLong(x);
        Due.is(name + ", then status()", x.status(), 0);
        leaves(name, x, 6);
    }

    private static void whatAsksLeave() {
        asks(6, "many(4)", x -> x.many(4));
        asks(7, "factor(360, 2, 1)", x -> x.factor(360, 2, 1));
        asks(8, "sum(360)", x -> x.sum(360));
        asks(9, "kind(360)", x -> x.kind(360));
        asks(10, "guide(360, 3)", x -> x.guide(360, 3));
        asks(11, "divisor(360, 7)", x -> x.divisor(360, 7));
        asks(12, "whole(70)", x -> x.whole(70));
        asks(13, "index(360, 1)", x -> x.index(360, 1));
        asks(14, "part(360, 2)", x -> x.part(360, 2));
        asks(15, "kin(6, 1, 501, 1)", x -> x.kin(6, 1, 501, 1));
        asks(16, "kins(1, 201, 2)", x -> x.kins(1, 201, 2));
        asks(17, "before(6, 2000, 1)", x -> x.before(6, 2000, 1));
        asks(18, "families(500, 2)", x -> x.families(500, 2));
        asks(19, "record(2000, 5)", x -> x.record(2000, 5));
        asks(20, "practical(360)", x -> x.practical(360));
        asks(21, "ladder(360, 2)", x -> x.ladder(360, 2));
        asks(22, "mean(360, true, 1)", x -> x.mean(360, true, 1));
        asks(23, "untouched(500, 2000, 1)", x -> x.untouched(500, 2000, 1));
        asks(24, "primitive(360)", x -> x.primitive(360));
        asks(25, "depth(1, 500)", x -> x.depth(1, 500));
        asks(26, "euclid(15, 2)", x -> x.euclid(15, 2));
        asks(27, "touched(6, 2000, 1)", x -> x.touched(6, 2000, 1));
        asks(28, "row(5)", x -> x.row(5));
        asks(29, "value(5, 1)", x -> x.value(5, 1));
        asks(30, "ends(5)", x -> x.ends(5));
        asks(31, "round(3, 2)", x -> x.round(3, 2));
        asks(32, "peak(2, 1)", x -> x.peak(2, 1));
        asks(33, "climb(2, 1)", x -> x.climb(2, 1));
        asks(34, "total(2, 2)", x -> x.total(2, 2));
        asks(35, "growth(2, 3)", x -> x.growth(2, 3));
        asks(36, "kept(2, 3)", x -> x.kept(2, 3));
        asks(37, "guides(2, 1)", x -> x.guides(2, 1));
        for (int law = 1; law < 4; law++) {
            int one = law;
            asks(38, "splits(0, " + law + ", 3)", x -> x.splits(0, one, 3));
        }
        asks(39, "lost(0, 1)", x -> x.lost(0, 1));
        asks(40, "duel(0, 5, 2)", x -> x.duel(0, 5, 2));
        asks(41, "meets(0, 5, 2)", x -> x.meets(0, 5, 2));
        asks(42, "alike(0)", x -> x.alike(0));
        asks(43, "counts(1, 501, 4)", x -> x.counts(1, 501, 4));
        asks(44, "mates(1, 501, 0, 1)", x -> x.mates(1, 501, 0, 1));
        asks(45, "rings(1, 51, 1, 1)", x -> x.rings(1, 51, 1, 1));
        asks(46, "rows(1, 51, 4)", x -> x.rows(1, 51, 4));
        asks(47, "lengths(1, 51, 2)", x -> x.lengths(1, 51, 2));
        asks(48, "shapes(1, 201, 2)", x -> x.shapes(1, 201, 2));
        asks(49, "same(12, 18)", x -> x.same(12, 18));
        asks(50, "euler(2, 1, 5)", x -> x.euler(2, 1, 5));
        asks(58, "out(0)", x -> x.out(0));
        Due.promise(57);
        Due.sentence("OUT is a TEXT of a ROW: print() changes OUT alone");
        SumWalker x = State.with(6);
        x.print(0);
        leaves("print(0) over again", x, 6);
    }
}
