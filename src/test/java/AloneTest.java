import java.util.ArrayList;
import java.util.List;
import java.util.function.ToLongFunction;

/**
 * "Nothing is promised beyond the answers and state changes described above": what a call answers hangs on the DESK
 * alone, not on what was asked, told or printed ahead of it.
 */
public final class AloneTest {
    private static final int NONE = SumWalker.NONE;
    private static final String DESK = "row a 12;row b 34;row c 138;row d 25;row e 6;row f 1;";
    private static final int[] STARTS = {138, 12, 30, 34, 562, 220, 276, 6, 25, 1, 102, 4, 150, 284, 96, 16, 999_999_999};

    private static final List<String> NAMES = new ArrayList<>();
    private static final List<ToLongFunction<SumWalker>> ASKS = new ArrayList<>();

    public static void main(String[] args) {
        numbers();
        greatNumbers();
        rangesAndBounds();
        rows();
        eachBehindEach();
        retold();
        byAnotherLaw();
        byOtherRules();
        printed();
        Due.end();
    }

    private static void ask(String name, ToLongFunction<SumWalker> call) {
        NAMES.add(name);
        ASKS.add(call);
    }

    private static void numbers() {
        for (int n : new int[] {1, 12, 223_092_870, 999_999_998}) {
            ask("factor(" + n + ", NONE, 0)", x -> x.factor(n, NONE, 0));
            ask("sum(" + n + ")", x -> x.sum(n));
            ask("practical(" + n + ")", x -> x.practical(n));
            ask("primitive(" + n + ")", x -> x.primitive(n));
            ask("index(" + n + ", 0)", x -> x.index(n, 0));
            ask("part(" + n + ", 1)", x -> x.part(n, 1));
            ask("same(" + n + ", 18)", x -> x.same(n, 18));
            ask("ladder(" + n + ", NONE)", x -> x.ladder(n, NONE));
            ask("divisor(" + n + ", 3)", x -> x.divisor(n, 3));
            ask("mean(" + n + ", true, 1)", x -> x.mean(n, true, 1));
        }
    }

    private static void greatNumbers() {
        ask("same(216, 900)", x -> x.same(216, 900));
        ask("same(18, 12)", x -> x.same(18, 12));
        ask("same(16, 120)", x -> x.same(16, 120));
        ask("guide(672, 3)", x -> x.guide(672, 3));
        ask("whole(70)", x -> x.whole(70));
        ask("whole(3000)", x -> x.whole(3000));
        ask("whole(4)", x -> x.whole(4));
        ask("euclid(15, 2)", x -> x.euclid(15, 2));
        ask("euler(8, 1, 5)", x -> x.euler(8, 1, 5));
    }

    private static void rangesAndBounds() {
        ask("kin(6, 1, 501, NONE)", x -> x.kin(6, 1, 501, NONE));
        ask("kins(6, 28, 1)", x -> x.kins(6, 28, 1));
        ask("kins(6, 27, 1)", x -> x.kins(6, 27, 1));
        ask("kins(6, 27, 2)", x -> x.kins(6, 27, 2));
        ask("kins(6, 6, 0)", x -> x.kins(6, 6, 0));
        ask("kins(1, 201, 0)", x -> x.kins(1, 201, 0));
        ask("before(6, 30, 1)", x -> x.before(6, 30, 1));
        ask("touched(1, 2000, 0)", x -> x.touched(1, 2000, 0));
        ask("record(2000, 16)", x -> x.record(2000, 16));
        ask("counts(1, 501, 2)", x -> x.counts(1, 501, 2));
        ask("mates(1, 300, 0, 1)", x -> x.mates(1, 300, 0, 1));
        ask("rings(1, 51, 1, 1)", x -> x.rings(1, 51, 1, 1));
        ask("lengths(1, 51, 3)", x -> x.lengths(1, 51, 3));
        for (int what = 0; what < 4; what++) {
            int one = what;
            ask("families(500, " + what + ")", x -> x.families(500, one));
            ask("families(6, " + what + ")", x -> x.families(6, one));
            ask("rows(1, 51, " + what + ")", x -> x.rows(1, 51, one));
            ask("rows(1, 51, " + (3 + what) + ")", x -> x.rows(1, 51, 3 + one));
            ask("shapes(1, 201, " + what + ")", x -> x.shapes(1, 201, one));
            ask("shapes(8, 10, " + what + ")", x -> x.shapes(8, 10, one));
            ask("untouched(500, 2000, " + what + ")", x -> x.untouched(500, 2000, one));
            ask("untouched(6, 6, " + what + ")", x -> x.untouched(6, 6, one));
        }
        for (int n : new int[] {0, 1, 12, 220, 2000}) {
            ask("depth(" + n + ", 500)", x -> x.depth(n, 500));
            ask("depth(" + n + ", 11)", x -> x.depth(n, 11));
        }
    }

    private static void rows() {
        for (int r = 0; r < 6; r++) {
            int one = r;
            for (int what = 0; what < 3; what++) {
                int of = what;
                ask("guides(" + r + ", " + what + ")", x -> x.guides(one, of));
                ask("splits(" + r + ", 1, " + what + ")", x -> x.splits(one, 1, of));
            }
            ask("kept(" + r + ", 3)", x -> x.kept(one, 3));
            ask("alike(" + r + ")", x -> x.alike(one));
            ask("print(" + r + ")", x -> x.print(one));
        }
    }

    private static void eachBehindEach() {
        Due.sentence("an answer hangs on the DESK alone");
        int size = ASKS.size();
        long[] answers = new long[size];
        int[] statuses = new int[size];
        for (int i = 0; i < size; i++) {
            SumWalker x = Due.desk(DESK);
            answers[i] = ASKS.get(i).applyAsLong(x);
            statuses[i] = x.status();
        }
        for (int i = 0; i < size; i++) {
            for (int j = 0; j < size; j += 120) {
                SumWalker x = Due.desk(DESK);
                for (int k = j; k < size && k < j + 120; k++) {
                    ASKS.get(i).applyAsLong(x);
                    Due.is(NAMES.get(k) + " behind " + NAMES.get(i), ASKS.get(k).applyAsLong(x), answers[k]);
                    Due.is(NAMES.get(k) + " behind " + NAMES.get(i) + ", then status()", x.status(), statuses[k]);
                }
            }
        }
    }

    /** All that can be asked of ROW 0, and of it and ROW 1. */
    private static String seen(SumWalker x) {
        StringBuilder seen = new StringBuilder();
        seen.append(x.row(0)).append(' ').append(x.value(0, NONE)).append(' ').append(x.ends(0));
        for (int what = 0; what < 4; what++) {
            long[] told = {x.round(0, what), x.peak(0, what), x.climb(0, what), x.total(0, what), x.growth(0, what),
                x.kept(0, what), x.guides(0, what), x.lost(0, what), x.duel(0, 1, what), x.duel(1, 0, what),
                x.meets(0, 1, what), x.meets(1, 0, what), x.value(0, what)};
            for (long one : told) {
                seen.append(' ').append(one);
            }
            for (int law = 0; law < 4; law++) {
                seen.append(' ').append(x.splits(0, law, what));
            }
        }
        int count = x.value(0, NONE);
        seen.append(" last ").append(x.value(0, count - 1)).append(' ').append(x.value(0, count)).append(' ')
            .append(x.growth(0, count - 1)).append(' ').append(x.lost(0, count)).append(' ').append(x.alike(0));
        int bytes = x.print(0);
        seen.append(" out ").append(bytes).append(' ').append(x.out(bytes - 1)).append(' ').append(x.out(bytes));
        return seen.toString();
    }

    private static void same(String call, SumWalker x, SumWalker fresh) {
        String got = seen(x);
        String due = seen(fresh);
        Due.is(call + ": " + got + " due " + due, got.equals(due) ? 1 : 0, 1);
    }

    private static SumWalker two(int n, int other, int law) {
        SumWalker x = new SumWalker();
        x.rule(2, law);
        x.put(n);
        x.put(other);
        return x;
    }

    private static void retold() {
        Due.promise(52);
        Due.sentence("A ROW is from another number, whatever it was");
        for (int n : STARTS) {
            for (int m : STARTS) {
                if (n != m) {
                    SumWalker x = two(n, 30, 0);
                    seen(x);
                    x.retell(0, m);
                    same("a ROW from " + n + " retold from " + m, x, two(m, 30, 0));
                }
            }
        }
    }

    private static void byAnotherLaw() {
        Due.promise(56);
        Due.sentence("LAW is another one");
        for (int n : STARTS) {
            for (int law = 0; law < 4; law++) {
                for (int other = 0; other < 4; other++) {
                    if (law != other) {
                        SumWalker x = two(n, 30, law);
                        seen(x);
                        x.rule(2, other);
                        same("a ROW from " + n + " by LAW " + law + " then " + other, x, two(n, 30, other));
                        x.undo();
                        same("a ROW from " + n + " by LAW " + law + " again", x, two(n, 30, law));
                    }
                }
            }
        }
    }

    private static void byOtherRules() {
        Due.promise(56);
        Due.sentence("BOUND, STEPS is another one");
        for (int n : STARTS) {
            for (int steps : new int[] {1, 2, 3, 7, 100}) {
                SumWalker x = two(n, 30, 0);
                seen(x);
                x.rule(1, steps);
                SumWalker fresh = new SumWalker();
                fresh.rule(1, steps);
                fresh.put(n);
                fresh.put(30);
                same("a ROW from " + n + " by STEPS " + steps, x, fresh);
            }
            for (int bound : new int[] {1, 15, 16, 220, 284, 999_999_999}) {
                SumWalker x = two(n, 30, 0);
                seen(x);
                x.rule(0, bound);
                SumWalker fresh = new SumWalker();
                fresh.rule(0, bound);
                fresh.put(n);
                fresh.put(30);
                same("a ROW from " + n + " by BOUND " + bound, x, fresh);
            }
        }
    }

    private static void printed() {
        Due.promise(57);
        Due.sentence("OUT is a TEXT of a ROW, whatever it was");
        for (int r = 0; r < 6; r++) {
            for (int ahead = 0; ahead < 6; ahead++) {
                SumWalker x = Due.desk(DESK);
                x.print(ahead);
                SumWalker fresh = Due.desk(DESK);
                int bytes = fresh.print(r);
                Due.ok(x, "print(" + r + ") behind " + ahead, x.print(r), bytes);
                for (int i = 0; i < bytes; i++) {
                    Due.is("out(" + i + ") of " + r + " behind " + ahead, x.out(i), fresh.out(i));
                }
                Due.no(x, "out(behind all) of " + r, x.out(bytes), Due.NOTHING);
            }
        }
    }
}
