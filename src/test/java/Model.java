import java.math.BigInteger;
import java.util.ArrayDeque;
import java.util.ArrayList;
import java.util.Arrays;
import java.util.Collections;
import java.util.HashMap;
import java.util.HashSet;
import java.util.LinkedHashMap;
import java.util.List;
import java.util.Map;
import java.util.Set;
import java.util.TreeMap;
import java.util.TreeSet;
import java.util.function.IntPredicate;
import java.util.regex.Matcher;
import java.util.regex.Pattern;

/** The document's words said again in the plainest way, slow, to hold the program's answers against. */
final class Model {
    private static final long NONE = -1;
    private static final int TOP = 999_999_999;
    private static final List<String> LAWS = List.of("plain", "unitary", "reduced", "bare");
    private static final List<String> LINES = List.of("row", "bound", "steps", "law");
    private static final Pattern TOKEN = Pattern.compile("([a-z]+)|([0-9]+)|(;)");

    private int status = 0;
    private final StringBuilder tape = new StringBuilder();
    private List<Integer> rows = new ArrayList<>();
    private int bound = 100_000;
    private int steps = 30;
    private int law = 0;
    private final ArrayDeque<Object[]> acts = new ArrayDeque<>();
    private long fault = NONE;
    private long faultPlace = NONE;
    private String out = "";

    // ---- status

    private static final class Refused extends RuntimeException {
        private static final long serialVersionUID = 1;
        final int why;

        Refused(int why) {
            super(null, null, false, false);
            this.why = why;
        }
    }

    private static void refuseIf(boolean holds, int why) {
        if (holds) {
            throw new Refused(why);
        }
    }

    private static void number(int n) {
        refuseIf(n < 1 || n > TOP, 1);
    }

    private static void among(int what, int most) {
        refuseIf(what < 0 || what > most, 1);
    }

    private static void range(int from, int to, int apart) {
        number(from);
        number(to);
        refuseIf(to < from || (long) to - from > apart, 1);
    }

    private void aRow(int r) {
        refuseIf(r < 0 || r >= rows.size(), 2);
    }

    private static long kth(List<? extends Number> all, int k) {
        if (k == -1) {
            return all.size();
        }
        refuseIf(k >= all.size(), 5);
        return all.get(k).longValue();
    }

    /** One call: the name of it and its arguments (a boolean as 0 or 1). */
    long call(String name, int[] a) {
        if (name.equals("status")) {
            return status;
        }
        if (name.equals("feed")) {
            return feed(a);
        }
        if (name.equals("fault")) {
            return a[0] == 0 ? fault : a[0] == 1 ? faultPlace : NONE;
        }
        try {
            long answer = answer(name, a);
            status = 0;
            return answer;
        } catch (Refused refused) {
            status = refused.why;
            return NONE;
        }
    }

    private long answer(String name, int[] a) {
        switch (name) {
            case "load": return load(a[0]);
            case "many": return many(a[0]);
            case "factor": return factor(a[0], a[1], a[2]);
            case "sum": number(a[0]); return sumOf(a[0], law);
            case "kind": number(a[0]); return kindOf(a[0], law);
            case "guide": return guide(a[0], a[1]);
            case "divisor": number(a[0]); refuseIf(a[1] < -1, 1); return kth(divisorsOf(a[0]), a[1]);
            case "whole": return whole(a[0]);
            case "index": number(a[0]); among(a[1], 1); return indexOf(a[0])[a[1]].longValue();
            case "part": return part(a[0], a[1]);
            case "kin": return kin(a[0], a[1], a[2], a[3]);
            case "kins": return kins(a[0], a[1], a[2]);
            case "before": return before(a[0], a[1], a[2]);
            case "families": return families(a[0], a[1]);
            case "record": return record(a[0], a[1]);
            case "practical": number(a[0]); return practical(a[0]) ? 1 : 0;
            case "ladder": return ladder(a[0], a[1]);
            case "mean": return mean(a[0], a[1] != 0, a[2]);
            case "untouched": return untouched(a[0], a[1], a[2]);
            case "primitive": number(a[0]); return primitive(a[0]) ? 1 : 0;
            case "depth": return depth(a[0], a[1]);
            case "euclid": return euclid(a[0], a[1]);
            case "touched": return touched(a[0], a[1], a[2]);
            case "counts": return counts(a[0], a[1], a[2]);
            case "mates": return mates(a[0], a[1], a[2], a[3]);
            case "rings": return rings(a[0], a[1], a[2], a[3]);
            case "rows": return rowsOf(a[0], a[1], a[2]);
            case "lengths": return lengths(a[0], a[1], a[2]);
            case "shapes": return shapes(a[0], a[1], a[2]);
            case "same": number(a[0]); number(a[1]); return shapeOf(a[0]).equals(shapeOf(a[1])) ? 1 : 0;
            case "euler": return euler(a[0], a[1], a[2]);
            default: return answerOfRow(name, a);
        }
    }

    private long answerOfRow(String name, int[] a) {
        switch (name) {
            case "row": aRow(a[0]); return rows.get(a[0]);
            case "value": refuseIf(a[1] < -1, 1); aRow(a[0]); return kth(rowOf(a[0]).values, a[1]);
            case "ends": aRow(a[0]); return rowOf(a[0]).end;
            case "round": return round(a[0], a[1]);
            case "peak": return peak(a[0], a[1]);
            case "climb": return climb(a[0], a[1]);
            case "total": return total(a[0], a[1]);
            case "growth": return growth(a[0], a[1]);
            case "kept": return kept(a[0], a[1]);
            case "guides": return guides(a[0], a[1]);
            case "splits": return splits(a[0], a[1], a[2]);
            case "lost": return lost(a[0], a[1]);
            case "duel": return duel(a[0], a[1], a[2]);
            case "meets": return meets(a[0], a[1], a[2]);
            case "alike": return alike(a[0]);
            case "put": return put(a[0]);
            case "retell": return retell(a[0], a[1]);
            case "drop": aRow(a[0]); act(); rows.remove(a[0]); return rows.size();
            case "follow": return follow(a[0]);
            case "trade": return trade(a[0], a[1]);
            case "rule": return rule(a[0], a[1]);
            case "print": return print(a[0]);
            case "out": refuseIf(a[0] < 0, 1); refuseIf(a[0] >= out.length(), 5); return out.charAt(a[0]);
            case "undo": return undo();
            default: throw new IllegalArgumentException(name);
        }
    }

    // ---- text

    private long feed(int[] a) {
        if (tape.length() + 20 > 400) {
            return NONE;
        }
        for (int word : a) {
            for (byte b : BigInteger.valueOf(word & 0xFFFFFFFFL | 1L << 32).toByteArray()) {
                tape.append((char) (b & 255));
            }
            tape.deleteCharAt(tape.length() - 5);
        }
        return tape.length();
    }

    private long load(int n) {
        refuseIf(n < 0 || n > tape.length(), 1);
        String text = tape.substring(0, n);
        tape.setLength(0);
        List<String> tokens = new ArrayList<>();
        List<Integer> places = new ArrayList<>();
        cut(text, tokens, places);
        parse(tokens, places);
        return rows.size();
    }

    /** "!" stands for no TOKEN, "" for the end. */
    private static void cut(String text, List<String> tokens, List<Integer> places) {
        int at = 0;
        while (true) {
            while (at < text.length() && " \n".indexOf(text.charAt(at)) >= 0) {
                at++;
            }
            places.add(at);
            Matcher m = TOKEN.matcher(text).region(at, text.length());
            if (at == text.length() || !m.lookingAt()) {
                tokens.add(at == text.length() ? "" : "!");
                return;
            }
            boolean tooLong = m.group(1) != null && m.group().length() > 8 || m.group().length() > 9;
            tokens.add(tooLong ? "!" : m.group());
            at = m.end();
        }
    }

    private void failText(List<String> tokens, List<Integer> places, int token, int kind) {
        fault = tokens.get(token).equals("!") ? 1 : kind;
        faultPlace = places.get(token);
        throw new Refused(9);
    }

    private void parse(List<String> tokens, List<Integer> places) {
        List<Integer> newRows = new ArrayList<>();
        Set<String> names = new HashSet<>();
        int[] rules = {100_000, 30, 0};
        int at = 0;
        while (!tokens.get(at).isEmpty()) {
            String line = tokens.get(at);
            if (!LINES.contains(line)) {
                failText(tokens, places, at, 2);
            }
            if (line.equals("row")) {
                if (newRows.size() == 6) {
                    failText(tokens, places, at, 5);
                }
                at++;
                String name = tokens.get(at);
                if (!name.matches("[a-z]+") || LINES.contains(name) || LAWS.contains(name)) {
                    failText(tokens, places, at, 2);
                }
                if (!names.add(name)) {
                    failText(tokens, places, at, 4);
                }
            }
            at++;
            String v = tokens.get(at);
            if (line.equals("law")) {
                if (!LAWS.contains(v)) {
                    failText(tokens, places, at, 2);
                }
                rules[2] = LAWS.indexOf(v);
            } else {
                if (!v.matches("[0-9]+")) {
                    failText(tokens, places, at, 2);
                }
                int n = Integer.parseInt(v);
                if (n < 1 || line.equals("steps") && n > 100) {
                    failText(tokens, places, at, 3);
                }
                if (line.equals("row")) {
                    newRows.add(n);
                } else {
                    rules[line.equals("bound") ? 0 : 1] = n;
                }
            }
            at++;
            if (!tokens.get(at).equals(";")) {
                failText(tokens, places, at, 2);
            }
            at++;
        }
        rows = newRows;
        bound = rules[0];
        steps = rules[1];
        law = rules[2];
        acts.clear();
        fault = 0;
        faultPlace = NONE;
    }

    private long many(int what) {
        among(what, 4);
        return new int[] {rows.size(), bound, steps, law, acts.size()}[what];
    }

    // ---- numbers

    static List<Integer> divisorsOf(int n) {
        TreeSet<Integer> all = new TreeSet<>();
        for (int d = 1; (long) d * d <= n; d++) {
            if (n % d == 0) {
                all.add(d);
                all.add(n / d);
            }
        }
        return new ArrayList<>(all);
    }

    static TreeMap<Integer, Integer> primesOf(int n) {
        TreeMap<Integer, Integer> primes = new TreeMap<>();
        int rest = n;
        for (int p = 2; (long) p * p <= rest; p++) {
            while (rest % p == 0) {
                primes.merge(p, 1, Integer::sum);
                rest /= p;
            }
        }
        if (rest > 1) {
            primes.merge(rest, 1, Integer::sum);
        }
        return primes;
    }

    static boolean isPrime(int n) {
        return primesOf(n).size() == 1 && primesOf(n).containsKey(n);
    }

    private static int commonDivisor(int a, int b) {
        return BigInteger.valueOf(a).gcd(BigInteger.valueOf(b)).intValue();
    }

    private static boolean isBare(int d) {
        return primesOf(d).values().stream().allMatch(e -> e == 1);
    }

    private final Map<Long, Long> sumsKnown = new HashMap<>();

    long sumOf(int n, int byLaw) {
        return sumsKnown.computeIfAbsent(4L * n + byLaw, key -> sumOfAnew(n, byLaw));
    }

    private static long sumOfAnew(int n, int byLaw) {
        if (n == 1) {
            return 0;
        }
        long sum = 0;
        for (int d : divisorsOf(n)) {
            boolean counts = d != n;
            counts &= byLaw != 1 || commonDivisor(d, n / d) == 1;
            counts &= byLaw != 2 || d != 1;
            counts = counts && (byLaw != 3 || isBare(d));
            sum += counts ? d : 0;
        }
        return sum;
    }

    private int kindOf(int n, int byLaw) {
        return Long.compare(sumOf(n, byLaw), n) + 1;
    }

    private long factor(int n, int i, int what) {
        number(n);
        refuseIf(i < -1, 1);
        among(what, 1);
        TreeMap<Integer, Integer> primes = primesOf(n);
        return kth(new ArrayList<>(what == 0 ? primes.keySet() : primes.values()), i);
    }

    /** GUIDE, a, v, 1 if it is a DRIVER; null for a number without one. */
    static int[] guideOf(int n) {
        if (n == 0 || n % 2 != 0) {
            return null;
        }
        TreeMap<Integer, Integer> primes = primesOf(n);
        int a = primes.get(2);
        int v = 1;
        for (Map.Entry<Integer, Integer> e : primesOf((1 << (a + 1)) - 1).entrySet()) {
            int times = Math.min(e.getValue(), primes.getOrDefault(e.getKey(), 0));
            for (int i = 0; i < times; i++) {
                v *= e.getKey();
            }
        }
        int all = divisorsOf(v).stream().mapToInt(d -> d).sum();
        int twos = primesOf(all).getOrDefault(2, 0);
        return new int[] {(1 << a) * v, a, v, twos >= a - 1 ? 1 : 0};
    }

    private long guide(int n, int what) {
        number(n);
        among(what, 3);
        refuseIf(n % 2 == 1, 5);
        return guideOf(n)[what];
    }

    private long whole(int n) {
        refuseIf(n < 1 || n > 3000, 1);
        BigInteger sums = BigInteger.ONE;
        long all = 0;
        for (int d : divisorsOf(n)) {
            if (d != n) {
                sums = sums.or(sums.shiftLeft(d));
                all += d;
            }
        }
        return sums.testBit(n) ? 1 : all > n ? 2 : 0;
    }

    static BigInteger[] fraction(BigInteger above, BigInteger below) {
        BigInteger common = above.gcd(below);
        return new BigInteger[] {above.divide(common), below.divide(common)};
    }

    private static BigInteger allOf(int n) {
        return divisorsOf(n).stream().map(BigInteger::valueOf).reduce(BigInteger.ZERO, BigInteger::add);
    }

    private final Map<Integer, BigInteger[]> indicesKnown = new HashMap<>();

    private BigInteger[] indexOf(int n) {
        return indicesKnown.computeIfAbsent(n, m -> fraction(allOf(m), BigInteger.valueOf(m)));
    }

    private long part(int n, int i) {
        number(n);
        refuseIf(i < 0, 1);
        TreeMap<Integer, Integer> primes = primesOf(n);
        refuseIf(i >= primes.size(), 5);
        int p = new ArrayList<>(primes.keySet()).get(i);
        int power = BigInteger.valueOf(p).pow(primes.get(p)).intValueExact();
        return allOf(power).longValue() * 1000 / power;
    }

    private boolean areKin(int a, int b) {
        return a != b && Arrays.equals(indexOf(a), indexOf(b));
    }

    private static List<Integer> those(int from, int to, IntPredicate test) {
        List<Integer> all = new ArrayList<>();
        for (int n = from; n <= to; n++) {
            if (test.test(n)) {
                all.add(n);
            }
        }
        return all;
    }

    private long kin(int n, int from, int to, int k) {
        number(n);
        range(from, to, 500);
        refuseIf(k < -1, 1);
        return kth(those(from, to, m -> areKin(m, n)), k);
    }

    private long kins(int from, int to, int what) {
        range(from, to, 200);
        among(what, 2);
        Map<List<BigInteger>, List<Integer>> groups = new LinkedHashMap<>();
        for (int n = from; n <= to; n++) {
            groups.computeIfAbsent(List.of(indexOf(n)), g -> new ArrayList<>()).add(n);
        }
        if (what == 0) {
            return groups.size();
        }
        if (what == 1) {
            return groups.values().stream().filter(g -> g.size() > 1).mapToInt(List::size).sum();
        }
        int most = groups.values().stream().mapToInt(List::size).max().getAsInt();
        refuseIf(most == 1, 5);
        return groups.values().stream().filter(g -> g.size() == most).mapToInt(g -> g.get(0)).min().getAsInt();
    }

    private long before(int n, int m, int k) {
        refuseIf(n < 0 || m < 1 || m > 2000 || k < 0, 1);
        return kth(those(1, m, b -> sumOf(b, law) == n), k);
    }

    private long families(int m, int what) {
        refuseIf(m < 1 || m > 500, 1);
        among(what, 3);
        // Paint each family by walking from number to number, on and back.
        int[] paint = new int[m + 1];
        List<Integer> least = new ArrayList<>();
        List<Integer> sizes = new ArrayList<>();
        for (int n = 1; n <= m; n++) {
            if (paint[n] != 0) {
                continue;
            }
            least.add(n);
            int size = 0;
            ArrayDeque<Integer> open = new ArrayDeque<>(List.of(n));
            paint[n] = least.size();
            while (!open.isEmpty()) {
                int one = open.pop();
                size++;
                for (int two = 1; two <= m; two++) {
                    boolean hang = sumOf(one, law) == two || sumOf(two, law) == one;
                    if (hang && paint[two] == 0) {
                        paint[two] = least.size();
                        open.push(two);
                    }
                }
            }
            sizes.add(size);
        }
        int most = Collections.max(sizes);
        int alone = Collections.frequency(sizes, 1);
        return new int[] {sizes.size(), most, least.get(sizes.indexOf(most)), alone}[what];
    }

    private long record(int m, int k) {
        refuseIf(m < 1 || m > 2000 || k < -1, 1);
        List<Integer> records = new ArrayList<>();
        for (int n = 1; n <= m; n++) {
            boolean greatest = true;
            BigInteger[] mine = indexOf(n);
            for (int less : records) {
                BigInteger[] its = indexOf(less);
                greatest &= mine[0].multiply(its[1]).compareTo(its[0].multiply(mine[1])) > 0;
            }
            if (greatest) {
                records.add(n);
            }
        }
        return kth(records, k);
    }

    private static boolean practical(int n) {
        BigInteger sums = BigInteger.ONE;
        for (int d : divisorsOf(n)) {
            sums = sums.or(sums.shiftLeft(d));
        }
        for (int m = 1; m <= n; m++) {
            if (!sums.testBit(m)) {
                return false;
            }
        }
        return true;
    }

    private static long ladder(int n, int k) {
        number(n);
        refuseIf(k < -1, 1);
        List<Integer> rungs = new ArrayList<>(List.of(n));
        while (rungs.get(rungs.size() - 1) > 2) {
            rungs.add(divisorsOf(rungs.get(rungs.size() - 1)).size());
        }
        return kth(rungs, k);
    }

    private static long mean(int n, boolean harmonic, int what) {
        number(n);
        among(what, 1);
        List<Integer> divisors = divisorsOf(n);
        BigInteger above = BigInteger.ZERO;
        BigInteger below = BigInteger.ONE;
        for (int d : divisors) {
            BigInteger big = BigInteger.valueOf(d);
            // Harmonic: how many there are, by the sum of 1 by each.
            above = harmonic ? above.multiply(big).add(below) : above.add(big);
            below = harmonic ? below.multiply(big) : below;
            BigInteger[] less = fraction(above, below);
            above = harmonic ? less[0] : above;
            below = harmonic ? less[1] : below;
        }
        BigInteger many = BigInteger.valueOf(divisors.size());
        BigInteger[] mean = harmonic ? fraction(many.multiply(below), above) : fraction(above, many);
        return mean[what].longValueExact();
    }

    private long untouched(int n, int m, int what) {
        refuseIf(n < 1 || n > 500 || m < 1 || m > 2000, 1);
        among(what, 1);
        List<Integer> left = those(1, n, s -> those(1, m, b -> sumOf(b, law) == s).isEmpty());
        refuseIf(what == 1 && left.isEmpty(), 5);
        return what == 0 ? left.size() : left.get(left.size() - 1);
    }

    private boolean primitive(int n) {
        return kindOf(n, 0) == 2 && divisorsOf(n).stream().noneMatch(d -> d != n && kindOf(d, 0) != 0);
    }

    private long depth(int n, int m) {
        refuseIf(n < 0 || n > 2000 || m < 1 || m > 500, 1);
        return depthOf(n, m, new HashSet<>());
    }

    private int depthOf(int n, int m, Set<Integer> way) {
        if (!way.add(n)) {
            return 0;
        }
        int depth = 0;
        for (int b : those(1, m, b -> b != n && sumOf(b, law) == n)) {
            depth = Math.max(depth, 1 + depthOf(b, m, way));
        }
        way.remove(n);
        return depth;
    }

    private long euclid(int p, int what) {
        refuseIf(p < 2 || p > 15, 1);
        among(what, 2);
        int odd = (int) Math.pow(2, p) - 1;
        int number = odd * (int) Math.pow(2, p - 1);
        return what == 0 ? (isPrime(odd) ? 1 : 0) : what == 1 ? number : kindOf(number, 0);
    }

    private long touched(int n, int m, int what) {
        refuseIf(n < 0 || m < 1 || m > 2000, 1);
        among(what, 1);
        List<Integer> all = those(1, m, b -> sumOf(b, law) == n);
        refuseIf(what == 1 && all.isEmpty(), 5);
        return what == 0 ? all.size() : all.get(0);
    }

    // ---- rows

    private static final class Row {
        final List<Integer> values = new ArrayList<>();
        int end = -1;
        int back = -1;

        int get(int k) {
            return values.get(k);
        }

        int size() {
            return values.size();
        }
    }

    private Row tell(int n, int byLaw) {
        Row row = new Row();
        row.values.add(n);
        while (row.end < 0) {
            long next = sumOf(row.get(row.size() - 1), byLaw);
            if (next <= TOP && row.values.contains((int) next)) {
                row.end = 1;
                row.back = row.values.indexOf((int) next);
            } else if (next > bound) {
                row.end = 2;
            } else {
                row.values.add((int) next);
                row.end = next == 0 ? 0 : row.size() - 1 == steps ? 3 : -1;
            }
        }
        return row;
    }

    private Row rowOf(int r) {
        return tell(rows.get(r), law);
    }

    private long round(int r, int what) {
        among(what, 2);
        aRow(r);
        Row row = rowOf(r);
        refuseIf(row.end != 1, 5);
        List<Integer> round = row.values.subList(row.back, row.size());
        return new int[] {row.back, round.size(), Collections.min(round)}[what];
    }

    private long peak(int r, int what) {
        among(what, 1);
        aRow(r);
        List<Integer> values = rowOf(r).values;
        int most = Collections.max(values);
        return what == 0 ? most : values.indexOf(most);
    }

    private long climb(int r, int what) {
        among(what, 1);
        aRow(r);
        Row row = rowOf(r);
        int[] best = {0, 0};
        for (int first = 0; first < row.size(); first++) {
            for (int last = first; last < row.size(); last++) {
                boolean rises = true;
                for (int k = first + 1; k <= last; k++) {
                    rises &= row.get(k) > row.get(k - 1);
                }
                if (rises && last - first + 1 > best[0]) {
                    best = new int[] {last - first + 1, first};
                }
            }
        }
        return best[what];
    }

    private long total(int r, int what) {
        among(what, 2);
        aRow(r);
        List<Integer> values = rowOf(r).values;
        if (what == 0) {
            return values.stream().mapToLong(v -> v).sum();
        }
        return values.stream().filter(v -> what == 1 ? v % 2 == 1 : v > 1 && isPrime(v)).count();
    }

    private long growth(int r, int k) {
        refuseIf(k < 0, 1);
        aRow(r);
        Row row = rowOf(r);
        refuseIf(k >= row.size() - 1, 5);
        return BigInteger.valueOf(row.get(k + 1)).multiply(BigInteger.valueOf(1000))
            .divide(BigInteger.valueOf(row.get(k))).longValueExact();
    }

    private long kept(int r, int what) {
        among(what, 3);
        aRow(r);
        Row row = rowOf(r);
        int keep = 0;
        List<Integer> drivers = new ArrayList<>();
        int spell = 0;
        for (int k = 0; k < row.size(); k++) {
            int[] guide = guideOf(row.get(k));
            if (guide == null) {
                continue;
            }
            int[] ahead = k == 0 ? null : guideOf(row.get(k - 1));
            keep += ahead != null && ahead[0] == guide[0] ? 1 : 0;
            if (guide[3] == 1) {
                drivers.add(k);
            }
            int last = k;
            while (last < row.size() && guideOf(row.get(last)) != null && guideOf(row.get(last))[0] == guide[0]) {
                last++;
            }
            spell = Math.max(spell, last - k);
        }
        refuseIf(what == 2 && drivers.isEmpty(), 5);
        return what == 0 ? keep : what == 1 ? drivers.size() : what == 2 ? drivers.get(0) : spell;
    }

    private long guides(int r, int what) {
        among(what, 2);
        aRow(r);
        TreeMap<Integer, Integer> many = new TreeMap<>();
        for (int v : rowOf(r).values) {
            if (guideOf(v) != null) {
                many.merge(guideOf(v)[0], 1, Integer::sum);
            }
        }
        if (what == 0) {
            return many.size();
        }
        refuseIf(many.isEmpty(), 5);
        int most = Collections.max(many.values());
        return what == 2 ? most : many.keySet().stream().filter(g -> many.get(g) == most).findFirst().get();
    }

    private long splits(int r, int byLaw, int what) {
        among(byLaw, 3);
        among(what, 3);
        aRow(r);
        refuseIf(byLaw == law, 4);
        Row one = rowOf(r);
        Row two = tell(rows.get(r), byLaw);
        if (what == 0) {
            refuseIf(one.values.equals(two.values), 5);
            int k = 0;
            while (k < one.size() && k < two.size() && one.get(k) == two.get(k)) {
                k++;
            }
            return k;
        }
        return new int[] {0, two.size(), two.end, two.get(two.size() - 1)}[what];
    }

    private long lost(int r, int k) {
        refuseIf(k < 1, 1);
        aRow(r);
        Row row = rowOf(r);
        refuseIf(k >= row.size(), 5);
        int[] here = guideOf(row.get(k));
        int[] ahead = guideOf(row.get(k - 1));
        if (here == null || ahead == null) {
            return 0;
        }
        return here[1] != ahead[1] ? 1 : here[2] != ahead[2] ? 2 : 0;
    }

    private long duel(int r, int other, int what) {
        among(what, 3);
        aRow(r);
        aRow(other);
        refuseIf(r == other, 4);
        Row one = rowOf(r);
        Row two = rowOf(other);
        String won = "";
        int both = Math.min(one.size(), two.size());
        for (int k = 0; k < both; k++) {
            won += one.get(k) > two.get(k) ? "1" : one.get(k) < two.get(k) ? "2" : "";
        }
        int turns = 0;
        for (int i = 1; i < won.length(); i++) {
            turns += won.charAt(i) != won.charAt(i - 1) ? 1 : 0;
        }
        int ones = won.replace("2", "").length();
        return new int[] {ones, won.length() - ones, turns, both - 1}[what];
    }

    private long meets(int r, int other, int what) {
        among(what, 2);
        aRow(r);
        aRow(other);
        refuseIf(r == other, 4);
        List<Integer> one = rowOf(r).values;
        List<Integer> two = rowOf(other).values;
        for (int v : one) {
            if (two.contains(v)) {
                return new int[] {v, one.indexOf(v), two.indexOf(v)}[what];
            }
        }
        throw new Refused(5);
    }

    private static Object endOf(Row row) {
        return row.end == 1 ? new HashSet<>(row.values.subList(row.back, row.size())) : (Object) row.end;
    }

    private long alike(int r) {
        aRow(r);
        int bits = 0;
        for (int i = 0; i < rows.size(); i++) {
            if (endOf(rowOf(i)).equals(endOf(rowOf(r)))) {
                bits += 1 << i;
            }
        }
        return bits;
    }

    // ---- ranges

    private long counts(int from, int to, int what) {
        range(from, to, 500);
        among(what, 4);
        if (what == 3) {
            return those(from, to, Model::isPrime).size();
        }
        if (what == 4) {
            return those(from, to, n -> n % 2 == 0 && guideOf(n)[3] == 1).size();
        }
        return those(from, to, n -> kindOf(n, law) == what).size();
    }

    private boolean areMates(long a, long b) {
        return a != b && a >= 1 && b >= 1 && a <= TOP && b <= TOP
            && sumOf((int) a, law) == b && sumOf((int) b, law) == a;
    }

    private long mates(int from, int to, int k, int what) {
        range(from, to, 500);
        refuseIf(k < -1, 1);
        among(what, 1);
        List<Integer> lesser = those(from, to, n -> sumOf(n, law) > n && areMates(n, sumOf(n, law)));
        long n = kth(lesser, k);
        return what == 0 || k == -1 ? n : sumOf((int) n, law);
    }

    private boolean isRing(int n, int length) {
        List<Long> round = new ArrayList<>(List.of((long) n));
        for (int i = 0; i < length; i++) {
            long last = round.get(round.size() - 1);
            if (last < 1 || last > TOP) {
                return false;
            }
            round.add(sumOf((int) last, law));
        }
        return round.get(length) == n && new HashSet<>(round).size() == length && Collections.min(round) == n
            && Collections.max(round) <= TOP;
    }

    private long rings(int from, int to, int length, int k) {
        range(from, to, 50);
        refuseIf(length < 1 || length > 30 || k < -1, 1);
        return kth(those(from, to, n -> isRing(n, length)), k);
    }

    private long rowsOf(int from, int to, int what) {
        range(from, to, 50);
        among(what, 6);
        if (what < 4) {
            return those(from, to, n -> tell(n, law).end == what).size();
        }
        if (what == 6) {
            return those(from, to, n -> true).stream().mapToInt(n -> Collections.max(tell(n, law).values)).max().getAsInt();
        }
        int most = those(from, to, n -> true).stream().mapToInt(n -> tell(n, law).size()).max().getAsInt();
        return what == 5 ? most : those(from, to, n -> tell(n, law).size() == most).get(0);
    }

    private long lengths(int from, int to, int many) {
        range(from, to, 50);
        refuseIf(many < 1, 1);
        return those(from, to, n -> tell(n, law).size() == many).size();
    }

    private static List<Integer> shapeOf(int n) {
        List<Integer> shape = new ArrayList<>(primesOf(n).values());
        shape.sort(Collections.reverseOrder());
        return shape;
    }

    private long shapes(int from, int to, int what) {
        range(from, to, 200);
        among(what, 2);
        Map<List<Integer>, List<Integer>> groups = new LinkedHashMap<>();
        for (int n = from; n <= to; n++) {
            groups.computeIfAbsent(shapeOf(n), g -> new ArrayList<>()).add(n);
        }
        int most = groups.values().stream().mapToInt(List::size).max().getAsInt();
        int least = groups.values().stream().filter(g -> g.size() == most).mapToInt(g -> g.get(0)).min().getAsInt();
        return new int[] {groups.size(), most, least}[what];
    }

    private static long euler(int k, int m, int what) {
        refuseIf(k < 2 || k > 9 || m < 1 || m >= k, 1);
        among(what, 5);
        BigInteger two = BigInteger.TWO;
        BigInteger f = two.pow(k - m).add(BigInteger.ONE);
        BigInteger p = two.pow(m).multiply(f).subtract(BigInteger.ONE);
        BigInteger q = two.pow(k).multiply(f).subtract(BigInteger.ONE);
        BigInteger r = two.pow(k + m).multiply(f).multiply(f).subtract(BigInteger.ONE);
        boolean holds = isPrime(p.intValueExact()) && isPrime(q.intValueExact()) && isPrime(r.intValueExact());
        refuseIf(what > 3 && !holds, 5);
        BigInteger[] all = {holds ? BigInteger.ONE : BigInteger.ZERO, p, q, r,
            two.pow(k).multiply(p).multiply(q), two.pow(k).multiply(r)};
        return all[what].longValueExact();
    }

    // ---- acts

    private void act() {
        acts.push(new Object[] {new ArrayList<>(rows), bound, steps, law});
        if (acts.size() > 8) {
            acts.removeLast();
        }
    }

    private long put(int n) {
        number(n);
        refuseIf(rows.size() == 6, 3);
        act();
        rows.add(n);
        return rows.size() - 1;
    }

    private long retell(int r, int n) {
        number(n);
        aRow(r);
        refuseIf(rows.get(r) == n, 4);
        act();
        return rows.set(r, n);
    }

    private long follow(int r) {
        aRow(r);
        Row row = rowOf(r);
        refuseIf(row.size() == 1 || row.get(1) == 0, 5);
        act();
        rows.set(r, row.get(1));
        return row.get(1);
    }

    private long trade(int r, int other) {
        aRow(r);
        aRow(other);
        refuseIf(r == other, 4);
        act();
        Collections.swap(rows, r, other);
        return rowOf(r).size();
    }

    private long rule(int what, int v) {
        among(what, 2);
        refuseIf(what == 0 && (v < 1 || v > TOP) || what == 1 && (v < 1 || v > 100), 1);
        refuseIf(what == 2 && (v < 0 || v > 3), 1);
        int old = new int[] {bound, steps, law}[what];
        refuseIf(old == v, 4);
        act();
        bound = what == 0 ? v : bound;
        steps = what == 1 ? v : steps;
        law = what == 2 ? v : law;
        return old;
    }

    private long print(int r) {
        aRow(r);
        List<String> words = new ArrayList<>();
        for (int v : rowOf(r).values) {
            List<String> primes = new ArrayList<>();
            if (v > 1) {
                primesOf(v).forEach((p, e) -> primes.add(e == 1 ? "" + p : p + "^" + e));
            }
            words.add(v > 1 ? String.join("*", primes) : "" + v);
        }
        out = String.join(" ", words);
        return out.length();
    }

    @SuppressWarnings("unchecked")
    private long undo() {
        refuseIf(acts.isEmpty(), 5);
        Object[] old = acts.pop();
        rows = new ArrayList<>((List<Integer>) old[0]);
        bound = (Integer) old[1];
        steps = (Integer) old[2];
        law = (Integer) old[3];
        return acts.size();
    }
}
