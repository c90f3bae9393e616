import java.util.ArrayList;
import java.util.Arrays;
import java.util.List;

/** All promises: long runs of calls, drawn by a fixed rule, each answer and STATUS held against the Model's. */
public final class ModelTest {
    /**
     * Each call and what it takes: n a number, s a small one, k which one, w what, r a ROW, g, h, j a RANGE
     * (500, 200, 50 apart), m up to 2,000, f up to 500, l a LAW, b yes or no, t a text, i any int.
     */
    private static final String[] CALLS = {
        "many w", "factor n k w", "sum n", "kind n", "guide n w", "divisor n k", "whole m", "index n w",
        "part n k", "kin s g k", "kins h w", "before s m k", "families f w", "record m k", "practical s",
        "ladder n k", "mean n b w", "untouched f m w", "primitive n", "depth m f", "euclid k w",
        "touched s m w", "row r", "value r k", "value r k", "ends r", "round r w", "peak r w", "climb r w",
        "total r w", "growth r k", "kept r w", "guides r w", "splits r l w", "lost r k", "lost r k",
        "duel r r w", "duel r r w", "meets r r w", "meets r r w", "alike r", "counts g w", "mates g k w",
        "rings j k k", "rows j w", "lengths j k", "shapes h w", "same s s", "euler k k w",
        "put n", "put s", "retell r n", "drop r", "follow r", "follow r", "trade r r", "rule v",
        "rule v", "rule v", "print r", "out k", "undo", "undo", "fault w", "text"
    };
    private static final int[] SPECIAL = {
        1, 2, 3, 4, 6, 12, 16, 25, 28, 30, 60, 70, 114, 120, 126, 220, 276, 284, 360, 496, 562, 836, 840, 1184,
        1210, 1264460, 12496, 14316, 15472, 735134400, 698377680, 999950884, 999999937, 999999999, 536870912,
        976562500, 994009, 1018081, 1022117, 999002449, 997002999, 387420489, 2620, 5020, 33550336, 1000, 946
    };
    private static final int[] FAR_OFF = {
        0, -1, -2, 1_000_000_000, Integer.MAX_VALUE, Integer.MIN_VALUE, 2001, 2000, 3000, 3001, 500, 501, 100, 101
    };

    private long seed;

    private ModelTest(long seed) {
        this.seed = seed;
    }

    public static void main(String[] args) {
        int runs = args.length > 0 ? Integer.parseInt(args[0]) : 500;
        int first = args.length > 1 ? Integer.parseInt(args[1]) : 0;
        sweep(6 * runs);
        for (int run = first; run < first + runs; run++) {
            new ModelTest(run * 7919L + 17).run(run);
        }
        Due.end();
    }

    /** What is asked of one number, for all of the first numbers, by each LAW. */
    private static void sweep(int numbers) {
        Model model = new Model();
        String[] calls = {"sum", "kind", "whole", "practical", "primitive", "guide 0", "guide 1", "guide 2", "guide 3",
            "index 0", "index 1", "ladder -1", "mean 0 0", "mean 0 1", "mean 1 0", "mean 1 1", "factor -1 0",
            "factor 1 0", "factor 1 1", "part 0", "part 1", "part 2", "divisor 2", "divisor 3", "divisor 5"};
        for (int law = 0; law < 4; law++) {
            if (law > 0) {
                model.call("rule", new int[] {2, law});
            }
            for (int n = 1; n <= numbers; n++) {
                SumWalker x = new SumWalker();
                x.rule(2, law);
                for (int i = 0; i < (law == 0 ? calls.length : 2); i++) {
                    String[] call = calls[i].split(" ");
                    int[] a = new int[call.length];
                    a[0] = n;
                    for (int j = 1; j < call.length; j++) {
                        a[j] = Integer.parseInt(call[j]);
                    }
                    agree(x, model, call[0], a, new ArrayList<>());
                }
            }
        }
    }

    private int below(int n) {
        seed = seed * 6364136223846793005L + 1442695040888963407L;
        return (int) ((seed >>> 33) % n);
    }

    private void run(int run) {
        SumWalker x = new SumWalker();
        Model model = new Model();
        List<String> told = new ArrayList<>();
        // Each call is asked its STATUS, too, and an object is used for 512 calls at most.
        for (int calls = 0; calls < 225; ) {
            String[] call = CALLS[calls == 0 ? CALLS.length - 1 : below(CALLS.length)].split(" ");
            if (call[0].equals("text")) {
                calls += feedText(x, model, told);
            } else {
                calls++;
                if (!agree(x, model, call[0], draw(call), told)) {
                    Due.tell("run " + run + ": " + String.join(" ", told.subList(Math.max(0, told.size() - 12), told.size())));
                    return;
                }
            }
        }
    }

    private static boolean agree(SumWalker x, Model model, String name, int[] a, List<String> told) {
        told.add(name + Arrays.toString(a));
        long want = model.call(name, a);
        long got = ask(x, name, a);
        long status = x.status();
        Due.is(name + Arrays.toString(a), got, want);
        Due.is(name + Arrays.toString(a) + ", then status()", status, model.call("status", null));
        return got == want && status == model.call("status", null);
    }

    // ---- what is drawn

    private int[] draw(String[] call) {
        List<Integer> a = new ArrayList<>();
        for (int i = 1; i < call.length; i++) {
            switch (call[i].charAt(0)) {
                case 'n': a.add(number(true)); break;
                case 's': a.add(number(false)); break;
                case 'k': a.add(below(3) == 0 ? -1 : below(20) == 0 ? odd() : below(below(2) == 0 ? 3 : 32) - 1); break;
                case 'w': a.add(below(40) == 0 ? odd() : below(9) == 0 ? -1 + below(9) : below(3)); break;
                case 'r': a.add(below(15) == 0 ? odd() : below(6)); break;
                case 'g': range(a, 500); break;
                case 'h': range(a, 200); break;
                case 'j': range(a, 50); break;
                case 'm': a.add(below(12) == 0 ? odd() : 1 + below(2000)); break;
                case 'f': a.add(below(12) == 0 ? odd() : 1 + below(500)); break;
                case 'l': a.add(below(5) - (below(20) == 0 ? 1 : 0)); break;
                case 'b': a.add(below(2)); break;
                case 'v': ruleValue(a); break;
                default: throw new IllegalArgumentException(call[i]);
            }
        }
        return a.stream().mapToInt(v -> v).toArray();
    }

    private int odd() {
        return FAR_OFF[below(FAR_OFF.length)];
    }

    private int number(boolean far) {
        int way = below(far ? 20 : 10);
        if (way == 0) {
            return odd();
        }
        if (way < 4) {
            int n = SPECIAL[below(SPECIAL.length)];
            return far || n < 20_000 ? n : 30;
        }
        if (way < 12) {
            return 1 + below(way < 8 ? 1000 : 20_000);
        }
        return 1 + below(way < 16 ? 2_000_000 : 999_999_999);
    }

    private void range(List<Integer> a, int apart) {
        int from = below(12) == 0 ? number(true) : 1 + below(below(8) == 0 ? 900_000 : 3000);
        int way = below(14);
        int far = way == 0 ? apart + 1 : way == 1 ? apart : way == 2 ? -1 : way == 3 ? 0 : below(apart + 1);
        a.add(from);
        a.add(below(40) == 0 ? odd() : from + far);
    }

    private void ruleValue(List<Integer> a) {
        int what = below(12) == 0 ? below(5) - 1 : below(3);
        a.add(what);
        if (below(10) == 0) {
            a.add(odd());
        } else if (what == 0) {
            a.add(below(3) == 0 ? 100_000 : number(true));
        } else {
            a.add(what == 1 ? 1 + below(102) : below(5));
        }
    }

    // ---- texts

    private int feedText(SumWalker x, Model model, List<String> told) {
        StringBuilder text = new StringBuilder();
        for (int lines = below(9); lines > 0; lines--) {
            text.append(line()).append(below(3) == 0 ? "\n" : "");
        }
        for (int faults = below(3) == 0 ? 1 : 0; faults > 0 && text.length() > 0; faults--) {
            String put = "abcrow;1 0\n#A9".substring(below(13)).substring(0, 1);
            int at = below(text.length());
            text.replace(at, at + below(2), below(3) == 0 ? "" : put);
        }
        int calls = 0;
        for (int at = 0; at < text.length(); at += 20) {
            int[] five = new int[5];
            for (int i = 0; i < 20; i++) {
                five[i / 4] = five[i / 4] << 8 | (at + i < text.length() ? text.charAt(at + i) : below(2) * 255);
            }
            agree(x, model, "feed", five, told);
            calls++;
        }
        int size = below(30) == 0 ? text.length() + below(60) - 20 : text.length();
        agree(x, model, "load", new int[] {size}, told);
        agree(x, model, "fault", new int[] {0}, told);
        agree(x, model, "fault", new int[] {1}, told);
        return calls + 3;
    }

    private String line() {
        String[] names = {"a", "b", "c", "d", "e", "f", "g", "hh", "abcdefgh", "rowa", "plains", "xyz", "q", "zz"};
        String end = below(2) == 0 ? " ;" : ";";
        switch (below(8)) {
            case 0: return "bound " + (below(20) == 0 ? 0 : 1 + below(below(2) == 0 ? 3000 : 999_999_999)) + end;
            case 1: return "steps " + (below(20) == 0 ? 101 * below(2) : 1 + below(100)) + end;
            case 2: return "law " + new String[] {"plain", "unitary", "reduced", "bare"}[below(4)] + end;
            default:
                String name = names[below(names.length)];
                return "row " + name + " " + SPECIAL[below(SPECIAL.length)] + end;
        }
    }

    // ---- the program's calls

    private static long ask(SumWalker x, String name, int[] a) {
        switch (name) {
            case "feed": return x.feed(a[0], a[1], a[2], a[3], a[4]);
            case "load": return x.load(a[0]);
            case "fault": return x.fault(a[0]);
            case "many": return x.many(a[0]);
            case "factor": return x.factor(a[0], a[1], a[2]);
            case "sum": return x.sum(a[0]);
            case "kind": return x.kind(a[0]);
            case "guide": return x.guide(a[0], a[1]);
            case "divisor": return x.divisor(a[0], a[1]);
            case "whole": return x.whole(a[0]);
            case "index": return x.index(a[0], a[1]);
            case "part": return x.part(a[0], a[1]);
            case "kin": return x.kin(a[0], a[1], a[2], a[3]);
            case "kins": return x.kins(a[0], a[1], a[2]);
            case "before": return x.before(a[0], a[1], a[2]);
            case "families": return x.families(a[0], a[1]);
            case "record": return x.record(a[0], a[1]);
            case "practical": return x.practical(a[0]);
            case "ladder": return x.ladder(a[0], a[1]);
            case "mean": return x.mean(a[0], a[1] != 0, a[2]);
            case "untouched": return x.untouched(a[0], a[1], a[2]);
            case "primitive": return x.primitive(a[0]);
            case "depth": return x.depth(a[0], a[1]);
            case "euclid": return x.euclid(a[0], a[1]);
            case "touched": return x.touched(a[0], a[1], a[2]);
            case "counts": return x.counts(a[0], a[1], a[2]);
            case "mates": return x.mates(a[0], a[1], a[2], a[3]);
            case "rings": return x.rings(a[0], a[1], a[2], a[3]);
            case "rows": return x.rows(a[0], a[1], a[2]);
            case "lengths": return x.lengths(a[0], a[1], a[2]);
            case "shapes": return x.shapes(a[0], a[1], a[2]);
            case "same": return x.same(a[0], a[1]);
            case "euler": return x.euler(a[0], a[1], a[2]);
            default: return askRow(x, name, a);
        }
    }

    private static long askRow(SumWalker x, String name, int[] a) {
        switch (name) {
            case "row": return x.row(a[0]);
            case "value": return x.value(a[0], a[1]);
            case "ends": return x.ends(a[0]);
            case "round": return x.round(a[0], a[1]);
            case "peak": return x.peak(a[0], a[1]);
            case "climb": return x.climb(a[0], a[1]);
            case "total": return x.total(a[0], a[1]);
            case "growth": return x.growth(a[0], a[1]);
            case "kept": return x.kept(a[0], a[1]);
            case "guides": return x.guides(a[0], a[1]);
            case "splits": return x.splits(a[0], a[1], a[2]);
            case "lost": return x.lost(a[0], a[1]);
            case "duel": return x.duel(a[0], a[1], a[2]);
            case "meets": return x.meets(a[0], a[1], a[2]);
            case "alike": return x.alike(a[0]);
            case "put": return x.put(a[0]);
            case "retell": return x.retell(a[0], a[1]);
            case "drop": return x.drop(a[0]);
            case "follow": return x.follow(a[0]);
            case "trade": return x.trade(a[0], a[1]);
            case "rule": return x.rule(a[0], a[1]);
            case "print": return x.print(a[0]);
            case "out": return x.out(a[0]);
            case "undo": return x.undo();
            default: throw new IllegalArgumentException(name);
        }
    }
}
