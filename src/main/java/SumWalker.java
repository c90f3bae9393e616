/** Sums of divisors followed on and on; ../shared/DOC.md tells what each call answers. */
public final class SumWalker {
    public static final int NONE = -1;

    private static final int WRONG = 1;
    private static final int NO_ROW = 2;
    private static final int TOO_MANY = 3;
    private static final int ALREADY = 4;
    private static final int NOTHING = 5;
    private static final int FAULTY = 9;

    private static final int GREATEST = 999_999_999;
    private static final int MOST_BYTES = 400;
    private static final int MOST_ROWS = 6;
    private static final int MOST_STEPS = 100;
    private static final int MOST_ACTS = 8;
    private static final int MOST_WHOLE = 3_000;
    private static final int MOST_BEFORE = 2_000;
    private static final int MOST_FAMILY = 500;
    private static final int MOST_RING = 30;
    private static final int FAR_APART = 500;
    private static final int APART = 200;
    private static final int NEAR_APART = 50;

    private static final int PLAIN = 0;
    private static final int UNITARY = 1;
    private static final int REDUCED = 2;
    private static final int BARE = 3;

    private static final int NOUGHT = 0;
    private static final int ROUND = 1;
    private static final int BEYOND = 2;
    private static final int LONG = 3;

    private static final int SHORT = 0;
    private static final int PERFECT = 1;
    private static final int RICH = 2;

    private final Reader reader = new Reader();
    private final Primes primes = new Primes();
    private final Desk desk = new Desk();
    private final Desk fresh = new Desk();
    private final Desk[] acts = new Desk[MOST_ACTS];
    private final Walk[] walks = new Walk[MOST_ROWS];
    /** A ROW that is told for one call alone. */
    private final Walk spare = new Walk();
    private final Ink ink = new Ink();
    /** Room for one number each of a RANGE, of the numbers up to a bound, or of a ROW's PLACES. */
    private final long[] sums = new long[FAR_APART + 1];
    private final int[] marks = new int[FAR_APART + 1];
    /** One bit for each number up to MOST_WHOLE. */
    private final long[] reached = new long[MOST_WHOLE / 64 + 1];
    private int actCount = 0;
    private int faultKind = NONE;
    private int faultPlace = NONE;
    private int latestStatus = 0;

    public SumWalker() {
        for (int i = 0; i < acts.length; i++) {
            acts[i] = new Desk();
        }
        for (int i = 0; i < walks.length; i++) {
            walks[i] = new Walk();
        }
    }

    // ---- the desk's text

    public int status() {
        return latestStatus;
    }

    public int feed(int a, int b, int c, int d, int e) {
        if (reader.taped + 20 > MOST_BYTES) {
            return NONE;
        }
        reader.tapeFour(a);
        reader.tapeFour(b);
        reader.tapeFour(c);
        reader.tapeFour(d);
        reader.tapeFour(e);
        return reader.taped;
    }

    public int load(int n) {
        if (n < 0 || n > reader.taped) {
            return refuse(WRONG);
        }
        boolean good = reader.readDesk(n, fresh);
        faultKind = reader.fault;
        faultPlace = reader.faultPlace;
        if (!good) {
            return refuse(FAULTY);
        }
        desk.copyFrom(fresh);
        actCount = 0;
        forgetWalks();
        return done(desk.count);
    }

    public int fault(int what) {
        if (what == 0) {
            return faultKind;
        }
        return what == 1 ? faultPlace : NONE;
    }

    public int many(int what) {
        switch (what) {
            case 0:
                return done(desk.count);
            case 1:
                return done(desk.bound);
            case 2:
                return done(desk.steps);
            case 3:
                return done(desk.law);
            case 4:
                return done(actCount);
            default:
                return refuse(WRONG);
        }
    }

    // ---- numbers

    public int factor(int n, int i, int what) {
        if (!isNumber(n) || i < NONE || !isChoice(what, 1)) {
            return refuse(WRONG);
        }
        primes.split(n);
        if (i == NONE) {
            return done(primes.count);
        }
        if (i >= primes.count) {
            return refuse(NOTHING);
        }
        return done(what == 0 ? primes.prime[i] : primes.times[i]);
    }

    public long sum(int n) {
        if (!isNumber(n)) {
            return refuse(WRONG);
        }
        return doneLong(sumOf(n));
    }

    public int kind(int n) {
        if (!isNumber(n)) {
            return refuse(WRONG);
        }
        return done(kindBy(desk.law, n));
    }

    public int guide(int n, int what) {
        if (!isNumber(n) || !isChoice(what, 3)) {
            return refuse(WRONG);
        }
        if (n % 2 != 0) {
            return refuse(NOTHING);
        }
        switch (what) {
            case 0:
                return done(guideOf(n));
            case 1:
                return done(twosOf(n));
            case 2:
                return done(oddGuideOf(n));
            default:
                return done(hasDriver(n) ? 1 : 0);
        }
    }

    public int divisor(int n, int k) {
        if (!isNumber(n) || k < NONE) {
            return refuse(WRONG);
        }
        int all = primes.countDivisors(n);
        if (k == NONE) {
            return done(all);
        }
        if (k >= all) {
            return refuse(NOTHING);
        }
        if (2 * k < all) {
            return done(lowDivisor(n, k));
        }
        return done(n / Math.max(1, lowDivisor(n, all - 1 - k)));
    }

    public int whole(int n) {
        if (n < 1 || n > MOST_WHOLE) {
            return refuse(WRONG);
        }
        int kind = kindBy(PLAIN, n);
        if (kind == SHORT) {
            return done(0);
        }
        if (kind == PERFECT || isWhole(n)) {
            return done(1);
        }
        return done(2);
    }

    public long index(int n, int what) {
        if (!isNumber(n) || !isChoice(what, 1)) {
            return refuse(WRONG);
        }
        return doneLong(partOfFraction(primes.addDivisors(n), n, what));
    }

    public int part(int n, int i) {
        if (!isNumber(n) || i < 0) {
            return refuse(WRONG);
        }
        primes.split(n);
        if (i >= primes.count) {
            return refuse(NOTHING);
        }
        return done(primes.thousandth(i));
    }

    public int kin(int n, int from, int to, int k) {
        if (!isNumber(n) || !isRange(from, to, FAR_APART) || k < NONE) {
            return refuse(WRONG);
        }
        long all = primes.addDivisors(n);
        int found = 0;
        for (int m = from; m <= to; m++) {
            // No number up to 10^9 has an INDEX of 7, so the products stay within a long.
            if (m == n || primes.addDivisors(m) * n != all * m) {
                continue;
            }
            if (found == k) {
                return done(m);
            }
            found++;
        }
        return doneCount(k, found);
    }

    public int kins(int from, int to, int what) {
        if (!isRange(from, to, APART) || !isChoice(what, 2)) {
            return refuse(WRONG);
        }
        int size = to - from + 1;
        for (int i = 0; i < size && i < sums.length; i++) {
            sums[i] = primes.addDivisors(from + i);
        }
        int unlike = 0;
        int related = 0;
        int most = 0;
        int best = 0;
        for (int i = 0; i < size; i++) {
            int kin = countKin(from, size, i);
            if (countKin(from, i, i) == 0) {
                unlike++;
            }
            if (kin > 0) {
                related++;
            }
            if (kin > most) {
                most = kin;
                best = from + i;
            }
        }
        if (what == 2) {
            return most == 0 ? refuse(NOTHING) : done(best);
        }
        return done(what == 0 ? unlike : related);
    }

    public int before(int n, int m, int k) {
        // Its promise tells n's own range, from 0 on, so here GREATEST doesn't end it.
        if (n < 0 || m < 1 || m > MOST_BEFORE || k < 0) {
            return refuse(WRONG);
        }
        int found = 0;
        for (int i = 1; i <= m; i++) {
            if (sumOf(i) != n) {
                continue;
            }
            if (found == k) {
                return done(i);
            }
            found++;
        }
        return refuse(NOTHING);
    }

    public int families(int m, int what) {
        if (m < 1 || m > MOST_FAMILY || !isChoice(what, 3)) {
            return refuse(WRONG);
        }
        joinFamilies(m);
        countFamilies(m);
        int all = 0;
        int alone = 0;
        int best = 1;
        for (int i = 1; i <= m && i < sums.length; i++) {
            if (sums[i] > 0) {
                all++;
            }
            if (sums[i] == 1) {
                alone++;
            }
            if (sums[i] > sums[best]) {
                best = i;
            }
        }
        switch (what) {
            case 0:
                return done(all);
            case 1:
                return done((int) sums[best]);
            case 2:
                return done(best);
            default:
                return done(alone);
        }
    }

    public int record(int m, int k) {
        if (m < 1 || m > MOST_BEFORE || k < NONE) {
            return refuse(WRONG);
        }
        long bestAll = 0;
        int best = 1;
        int found = 0;
        for (int i = 1; i <= m; i++) {
            long all = primes.addDivisors(i);
            if (all * best <= bestAll * i) {
                continue;
            }
            bestAll = all;
            best = i;
            if (found == k) {
                return done(i);
            }
            found++;
        }
        return doneCount(k, found);
    }

    public int practical(int n) {
        if (!isNumber(n)) {
            return refuse(WRONG);
        }
        primes.split(n);
        return done(primes.isPractical() ? 1 : 0);
    }

    public int ladder(int n, int k) {
        if (!isNumber(n) || k < NONE) {
            return refuse(WRONG);
        }
        int rung = n;
        int height = 0;
        // Each rung is less than the one ahead, so the ladder is short.
        for (int i = 0; i <= MOST_STEPS; i++) {
            if (height == k) {
                return done(rung);
            }
            height++;
            if (rung <= 2) {
                break;
            }
            rung = primes.countDivisors(rung);
        }
        return doneCount(k, height);
    }

    public long mean(int n, boolean harmonic, int what) {
        if (!isNumber(n) || !isChoice(what, 1)) {
            return refuse(WRONG);
        }
        long all = primes.addDivisors(n);
        int many = primes.countDivisors(n);
        if (harmonic) {
            return doneLong(partOfFraction((long) n * many, all, what));
        }
        return doneLong(partOfFraction(all, many, what));
    }

    public int untouched(int n, int m, int what) {
        if (n < 1 || n > MOST_FAMILY || m < 1 || m > MOST_BEFORE || !isChoice(what, 1)) {
            return refuse(WRONG);
        }
        clearMarks();
        for (int i = 1; i <= m; i++) {
            long sum = sumOf(i);
            if (sum < marks.length) {
                marks[(int) Math.max(0, sum)] = 1;
            }
        }
        int many = 0;
        int last = 0;
        for (int i = 1; i <= n && i < marks.length; i++) {
            if (marks[i] == 0) {
                many++;
                last = i;
            }
        }
        if (what == 0) {
            return done(many);
        }
        return many == 0 ? refuse(NOTHING) : done(last);
    }

    public int primitive(int n) {
        if (!isNumber(n)) {
            return refuse(WRONG);
        }
        return done(isPrimitive(n) ? 1 : 0);
    }

    public int depth(int n, int m) {
        if (n < 0 || n > MOST_BEFORE || m < 1 || m > MOST_FAMILY) {
            return refuse(WRONG);
        }
        fillSums(m);
        int deepest = 0;
        for (int i = 1; i <= m; i++) {
            deepest = Math.max(deepest, stepsTo(n, i, m));
        }
        return done(deepest);
    }

    public int euclid(int p, int what) {
        if (p < 2 || p > 15 || !isChoice(what, 2)) {
            return refuse(WRONG);
        }
        int odd = (1 << p) - 1;
        int number = odd << (p - 1);
        switch (what) {
            case 0:
                return done(primes.isPrime(odd) ? 1 : 0);
            case 1:
                return done(number);
            default:
                return done(kindBy(PLAIN, number));
        }
    }

    public int touched(int n, int m, int what) {
        // As before(): n is from 0 on, and GREATEST doesn't end it.
        if (n < 0 || m < 1 || m > MOST_BEFORE || !isChoice(what, 1)) {
            return refuse(WRONG);
        }
        int many = 0;
        int least = 0;
        for (int i = 1; i <= m; i++) {
            if (sumOf(i) == n) {
                many++;
                least = many == 1 ? i : least;
            }
        }
        if (what == 0) {
            return done(many);
        }
        return many == 0 ? refuse(NOTHING) : done(least);
    }

    // ---- rows

    public int row(int r) {
        if (!hasRow(r)) {
            return refuse(NO_ROW);
        }
        return done(desk.starts[r]);
    }

    public int value(int r, int k) {
        if (k < NONE) {
            return refuse(WRONG);
        }
        if (!hasRow(r)) {
            return refuse(NO_ROW);
        }
        Walk walk = walkOf(r);
        if (k == NONE) {
            return done(walk.count);
        }
        return k < walk.count ? done(walk.values[k]) : refuse(NOTHING);
    }

    public int ends(int r) {
        if (!hasRow(r)) {
            return refuse(NO_ROW);
        }
        return done(walkOf(r).end);
    }

    public int round(int r, int what) {
        if (!isChoice(what, 2)) {
            return refuse(WRONG);
        }
        if (!hasRow(r)) {
            return refuse(NO_ROW);
        }
        Walk walk = walkOf(r);
        if (walk.end != ROUND) {
            return refuse(NOTHING);
        }
        switch (what) {
            case 0:
                return done(walk.back);
            case 1:
                return done(walk.count - walk.back);
            default:
                return done(walk.leastOfRound());
        }
    }

    public int peak(int r, int what) {
        if (!isChoice(what, 1)) {
            return refuse(WRONG);
        }
        if (!hasRow(r)) {
            return refuse(NO_ROW);
        }
        Walk walk = walkOf(r);
        int place = walk.peakPlace();
        return done(what == 0 ? walk.values[place] : place);
    }

    public int climb(int r, int what) {
        if (!isChoice(what, 1)) {
            return refuse(WRONG);
        }
        if (!hasRow(r)) {
            return refuse(NO_ROW);
        }
        Walk walk = walkOf(r);
        int first = walk.climbPlace();
        return done(what == 0 ? walk.climbFrom(first) : first);
    }

    public long total(int r, int what) {
        if (!isChoice(what, 2)) {
            return refuse(WRONG);
        }
        if (!hasRow(r)) {
            return refuse(NO_ROW);
        }
        Walk walk = walkOf(r);
        long all = 0;
        int odd = 0;
        int prime = 0;
        for (int k = 0; k < walk.count; k++) {
            int v = walk.values[k];
            all += v;
            odd += v % 2;
            prime += what == 2 && primes.isPrime(v) ? 1 : 0;
        }
        if (what == 0) {
            return doneLong(all);
        }
        return done(what == 1 ? odd : prime);
    }

    public int growth(int r, int k) {
        if (k < 0) {
            return refuse(WRONG);
        }
        if (!hasRow(r)) {
            return refuse(NO_ROW);
        }
        Walk walk = walkOf(r);
        if (k >= walk.count - 1) {
            return refuse(NOTHING);
        }
        return done((int) (1000L * walk.values[k + 1] / Math.max(1, walk.values[k])));
    }

    public int kept(int r, int what) {
        if (!isChoice(what, 3)) {
            return refuse(WRONG);
        }
        if (!hasRow(r)) {
            return refuse(NO_ROW);
        }
        Walk walk = walkOf(r);
        switch (what) {
            case 0:
                return done(keptPlaces(walk));
            case 1:
                return done(driverPlaces(walk));
            case 2:
                int first = firstDriver(walk);
                return first == NONE ? refuse(NOTHING) : done(first);
            default:
                return done(longestSpell(walk));
        }
    }

    public int guides(int r, int what) {
        if (!isChoice(what, 2)) {
            return refuse(WRONG);
        }
        if (!hasRow(r)) {
            return refuse(NO_ROW);
        }
        int size = markGuides(walkOf(r));
        int unlike = 0;
        int most = 0;
        int best = 0;
        for (int k = 0; k < size; k++) {
            if (marks[k] == 0) {
                continue;
            }
            unlike += countMarks(k, k) == 0 ? 1 : 0;
            int places = countMarks(size, k);
            if (places > most || (places == most && marks[k] < best)) {
                most = places;
                best = marks[k];
            }
        }
        if (what == 0) {
            return done(unlike);
        }
        if (most == 0) {
            return refuse(NOTHING);
        }
        return done(what == 1 ? best : most);
    }

    public int splits(int r, int law, int what) {
        if (!isChoice(law, BARE) || !isChoice(what, 3)) {
            return refuse(WRONG);
        }
        if (!hasRow(r)) {
            return refuse(NO_ROW);
        }
        if (law == desk.law) {
            return refuse(ALREADY);
        }
        Walk walk = walkOf(r);
        spare.tell(desk.starts[r], law, desk, primes);
        switch (what) {
            case 0:
                int place = walk.splitFrom(spare);
                return place == NONE ? refuse(NOTHING) : done(place);
            case 1:
                return done(spare.count);
            case 2:
                return done(spare.end);
            default:
                return done(spare.lastValue());
        }
    }

    public int lost(int r, int k) {
        if (k < 1) {
            return refuse(WRONG);
        }
        if (!hasRow(r)) {
            return refuse(NO_ROW);
        }
        Walk walk = walkOf(r);
        if (k >= walk.count) {
            return refuse(NOTHING);
        }
        int here = walk.values[k];
        int ahead = walk.values[k - 1];
        // A VALUE 0 has no GUIDE, so nothing is lost there.
        if (guideOf(here) == 0 || guideOf(ahead) == 0 || guideOf(here) == guideOf(ahead)) {
            return done(0);
        }
        return done(twosOf(here) != twosOf(ahead) ? 1 : 2);
    }

    public int duel(int r, int other, int what) {
        if (!isChoice(what, 3)) {
            return refuse(WRONG);
        }
        if (!hasRow(r) || !hasRow(other)) {
            return refuse(NO_ROW);
        }
        if (r == other) {
            return refuse(ALREADY);
        }
        Walk first = walkOf(r);
        Walk second = walkOf(other);
        int both = Math.min(first.count, second.count);
        switch (what) {
            case 0:
                return done(first.countAbove(second));
            case 1:
                return done(second.countAbove(first));
            case 2:
                return done(first.countTurns(second));
            default:
                return done(both - 1);
        }
    }

    public int meets(int r, int other, int what) {
        if (!isChoice(what, 2)) {
            return refuse(WRONG);
        }
        if (!hasRow(r) || !hasRow(other)) {
            return refuse(NO_ROW);
        }
        if (r == other) {
            return refuse(ALREADY);
        }
        Walk first = walkOf(r);
        Walk second = walkOf(other);
        for (int k = 0; k < first.count; k++) {
            int there = second.placeOf(first.values[k]);
            if (there != NONE) {
                return done(what == 0 ? first.values[k] : what == 1 ? k : there);
            }
        }
        return refuse(NOTHING);
    }

    public int alike(int r) {
        if (!hasRow(r)) {
            return refuse(NO_ROW);
        }
        Walk walk = walkOf(r);
        int bits = 0;
        for (int i = 0; i < desk.count; i++) {
            Walk one = walkOf(i);
            // Each VALUE has one SUM, so ROUNDS with the same least VALUE have all VALUES in common.
            boolean same = one.end == walk.end
                && (walk.end != ROUND || one.leastOfRound() == walk.leastOfRound());
            bits |= same ? 1 << i : 0;
        }
        return done(bits);
    }

    // ---- ranges

    public int counts(int from, int to, int what) {
        if (!isRange(from, to, FAR_APART) || !isChoice(what, 4)) {
            return refuse(WRONG);
        }
        int found = 0;
        for (int n = from; n <= to; n++) {
            found += isCounted(n, what) ? 1 : 0;
        }
        return done(found);
    }

    public int mates(int from, int to, int k, int what) {
        if (!isRange(from, to, FAR_APART) || k < NONE || !isChoice(what, 1)) {
            return refuse(WRONG);
        }
        int found = 0;
        for (int n = from; n <= to; n++) {
            int mate = greaterMate(n);
            if (mate == NONE) {
                continue;
            }
            if (found == k) {
                return done(what == 0 ? n : mate);
            }
            found++;
        }
        return doneCount(k, found);
    }

    public int rings(int from, int to, int length, int k) {
        if (!isRange(from, to, NEAR_APART) || length < 1 || length > MOST_RING || k < NONE) {
            return refuse(WRONG);
        }
        int found = 0;
        for (int n = from; n <= to; n++) {
            if (!isRing(n, length)) {
                continue;
            }
            if (found == k) {
                return done(n);
            }
            found++;
        }
        return doneCount(k, found);
    }

    public int rows(int from, int to, int what) {
        if (!isRange(from, to, NEAR_APART) || !isChoice(what, 6)) {
            return refuse(WRONG);
        }
        int ended = 0;
        int most = 0;
        int longest = 0;
        int greatest = 0;
        for (int n = from; n <= to; n++) {
            spare.tell(n, desk.law, desk, primes);
            ended += spare.end == what ? 1 : 0;
            if (spare.count > most) {
                most = spare.count;
                longest = n;
            }
            greatest = Math.max(greatest, spare.values[spare.peakPlace()]);
        }
        switch (what) {
            case 4:
                return done(longest);
            case 5:
                return done(most);
            case 6:
                return done(greatest);
            default:
                return done(ended);
        }
    }

    public int lengths(int from, int to, int many) {
        if (!isRange(from, to, NEAR_APART) || many < 1) {
            return refuse(WRONG);
        }
        int found = 0;
        for (int n = from; n <= to; n++) {
            spare.tell(n, desk.law, desk, primes);
            found += spare.count == many ? 1 : 0;
        }
        return done(found);
    }

    public int shapes(int from, int to, int what) {
        if (!isRange(from, to, APART) || !isChoice(what, 2)) {
            return refuse(WRONG);
        }
        int size = to - from + 1;
        for (int i = 0; i < size && i < marks.length; i++) {
            marks[i] = primes.shapeOf(from + i);
        }
        int unlike = 0;
        int most = 0;
        int best = 0;
        for (int i = 0; i < size; i++) {
            unlike += countMarks(i, i) == 0 ? 1 : 0;
            int many = countMarks(size, i);
            if (many > most) {
                most = many;
                best = from + i;
            }
        }
        if (what == 0) {
            return done(unlike);
        }
        return done(what == 1 ? most : best);
    }

    public int same(int n, int other) {
        if (!isNumber(n) || !isNumber(other)) {
            return refuse(WRONG);
        }
        return done(primes.shapeOf(n) == primes.shapeOf(other) ? 1 : 0);
    }

    public long euler(int k, int m, int what) {
        if (k < 2 || k > 9 || m < 1 || m >= k || !isChoice(what, 5)) {
            return refuse(WRONG);
        }
        int f = (1 << (k - m)) + 1;
        int p = (f << m) - 1;
        int q = (f << k) - 1;
        int r = (f * f << (k + m)) - 1;
        boolean holds = primes.isPrime(p) && primes.isPrime(q) && primes.isPrime(r);
        if (what > 3 && !holds) {
            return refuse(NOTHING);
        }
        switch (what) {
            case 0:
                return done(holds ? 1 : 0);
            case 1:
                return done(p);
            case 2:
                return done(q);
            case 3:
                return done(r);
            case 4:
                return doneLong(((long) p << k) * q);
            default:
                return doneLong((long) r << k);
        }
    }

    // ---- acts

    public int put(int n) {
        if (!isNumber(n)) {
            return refuse(WRONG);
        }
        if (desk.count >= MOST_ROWS) {
            return refuse(TOO_MANY);
        }
        keepAct();
        desk.addRow(n);
        forgetWalks();
        return done(desk.count - 1);
    }

    public int retell(int r, int n) {
        if (!isNumber(n)) {
            return refuse(WRONG);
        }
        if (!hasRow(r)) {
            return refuse(NO_ROW);
        }
        int old = desk.starts[r];
        if (old == n) {
            return refuse(ALREADY);
        }
        startRowAt(r, n);
        return done(old);
    }

    public int drop(int r) {
        if (!hasRow(r)) {
            return refuse(NO_ROW);
        }
        keepAct();
        desk.removeRow(r);
        forgetWalks();
        return done(desk.count);
    }

    public int follow(int r) {
        if (!hasRow(r)) {
            return refuse(NO_ROW);
        }
        Walk walk = walkOf(r);
        if (walk.count < 2 || walk.values[1] == 0) {
            return refuse(NOTHING);
        }
        int second = walk.values[1];
        startRowAt(r, second);
        return done(second);
    }

    public int trade(int r, int other) {
        if (!hasRow(r) || !hasRow(other)) {
            return refuse(NO_ROW);
        }
        if (r == other) {
            return refuse(ALREADY);
        }
        keepAct();
        int start = desk.starts[r];
        desk.starts[r] = desk.starts[other];
        desk.starts[other] = start;
        forgetWalks();
        return done(walkOf(r).count);
    }

    public int rule(int what, int v) {
        if (!isChoice(what, 2) || !canRule(what, v)) {
            return refuse(WRONG);
        }
        int old = what == 0 ? desk.bound : what == 1 ? desk.steps : desk.law;
        if (old == v) {
            return refuse(ALREADY);
        }
        keepAct();
        if (what == 0) {
            desk.bound = v;
        } else if (what == 1) {
            desk.steps = v;
        } else {
            desk.law = v;
        }
        forgetWalks();
        return done(old);
    }

    public int print(int r) {
        if (!hasRow(r)) {
            return refuse(NO_ROW);
        }
        ink.writeRow(walkOf(r), primes);
        return done(ink.count);
    }

    public int out(int i) {
        if (i < 0) {
            return refuse(WRONG);
        }
        return i < ink.count ? done(ink.bytes[i]) : refuse(NOTHING);
    }

    public int undo() {
        if (actCount < 1 || actCount > acts.length) {
            return refuse(NOTHING);
        }
        actCount--;
        desk.copyFrom(acts[actCount]);
        forgetWalks();
        return done(actCount);
    }

    // ---- answers

    private int refuse(int newStatus) {
        latestStatus = newStatus;
        return NONE;
    }

    private int done(int answer) {
        latestStatus = 0;
        return answer;
    }

    private long doneLong(long answer) {
        latestStatus = 0;
        return answer;
    }

    /** The end of a search for the k-th one that only came as far as how many there are. */
    private int doneCount(int k, int found) {
        return k == NONE ? done(found) : refuse(NOTHING);
    }

    // ---- what is asked of numbers

    private static boolean isNumber(int n) {
        return n >= 1 && n <= GREATEST;
    }

    private static boolean isChoice(int what, int last) {
        return what >= 0 && what <= last;
    }

    private static boolean isRange(int from, int to, int apart) {
        return isNumber(from) && isNumber(to) && to >= from && to - from <= apart;
    }

    private static boolean canRule(int what, int v) {
        if (what == 0) {
            return isNumber(v);
        }
        return what == 1 ? v >= 1 && v <= MOST_STEPS : isChoice(v, BARE);
    }

    private boolean hasRow(int r) {
        return r >= 0 && r < desk.count && r < walks.length;
    }

    // ---- state

    private void keepAct() {
        if (actCount >= acts.length) {
            dropOldestAct();
        }
        acts[actCount].copyFrom(desk);
        actCount++;
    }

    private void dropOldestAct() {
        Desk oldest = acts[0];
        for (int i = 1; i < acts.length; i++) {
            acts[i - 1] = acts[i];
        }
        acts[acts.length - 1] = oldest;
        actCount = acts.length - 1;
    }

    private void startRowAt(int r, int n) {
        keepAct();
        desk.starts[r] = n;
        forgetWalks();
    }

    private void forgetWalks() {
        for (int i = 0; i < walks.length; i++) {
            walks[i].told = false;
        }
    }

    private Walk walkOf(int r) {
        Walk walk = walks[r];
        if (!walk.told) {
            walk.tell(desk.starts[r], desk.law, desk, primes);
        }
        return walk;
    }

    // ---- numbers, further on

    private long sumOf(int n) {
        return primes.sumBy(desk.law, n);
    }

    private int kindBy(int law, int n) {
        long sum = primes.sumBy(law, n);
        if (sum == n) {
            return PERFECT;
        }
        return sum < n ? SHORT : RICH;
    }

    private static long gcd(long a, long b) {
        long high = a;
        long low = b;
        for (int i = 0; i < 100 && low != 0; i++) {
            long rest = high % low;
            high = low;
            low = rest;
        }
        return Math.max(1, high);
    }

    /** Above (what 0) or below of a fraction without a common divisor. */
    private static long partOfFraction(long above, long below, int what) {
        return (what == 0 ? above : below) / gcd(above, below);
    }

    private static int twosOf(int n) {
        int twos = 0;
        for (int rest = n; rest > 0 && rest % 2 == 0; rest /= 2) {
            twos++;
        }
        return twos;
    }

    private static int oddGuideOf(int n) {
        int evenPower = n & -n;
        return (int) gcd(2 * evenPower - 1, n);
    }

    /** The GUIDE, or 0 for a number without one: an odd one, or 0. */
    private static int guideOf(int n) {
        if (n < 1 || n % 2 != 0) {
            return 0;
        }
        return (n & -n) * oddGuideOf(n);
    }

    private boolean hasDriver(int n) {
        if (guideOf(n) == 0) {
            return false;
        }
        int needed = Math.max(1, (n & -n) / 2);
        return primes.addDivisors(oddGuideOf(n)) % needed == 0;
    }

    /** The k-th divisor, if it is no more than n's root. */
    private static int lowDivisor(int n, int k) {
        int found = 0;
        for (int d = 1; d <= n / d; d++) {
            if (n % d != 0) {
                continue;
            }
            if (found == k) {
                return d;
            }
            found++;
        }
        return 1;
    }

    private boolean isWhole(int n) {
        for (int i = 0; i < reached.length; i++) {
            reached[i] = i == 0 ? 1 : 0;
        }
        for (int d = 1; d <= n / 2; d++) {
            if (n % d == 0) {
                reachWith(d);
            }
        }
        int word = n / 64;
        return word < reached.length && (reached[word] >>> (n % 64) & 1) == 1;
    }

    /** From each sum that can be reached, that and d, too. */
    private void reachWith(int d) {
        int words = d / 64;
        int rest = d % 64;
        for (int i = reached.length - 1; i >= words; i--) {
            long moved = reached[i - words] << rest;
            if (rest > 0 && i > words) {
                moved |= reached[i - words - 1] >>> (64 - rest);
            }
            reached[i] |= moved;
        }
    }

    /** How many of the first numbers of a RANGE are KIN of its i-th; their divisors' sums are told. */
    private int countKin(int from, int first, int i) {
        int kin = 0;
        for (int j = 0; j < first && j < sums.length && i < sums.length; j++) {
            if (j != i && sums[j] * (from + i) == sums[i] * (from + j)) {
                kin++;
            }
        }
        return kin;
    }

    private void fillSums(int m) {
        for (int i = 1; i <= m && i < sums.length; i++) {
            sums[i] = sumOf(i);
        }
    }

    private void clearMarks() {
        for (int i = 0; i < marks.length; i++) {
            marks[i] = 0;
        }
    }

    /** Each mark leads to a less number of the same family, that of the least one to itself. */
    private void joinFamilies(int m) {
        for (int i = 0; i < marks.length; i++) {
            marks[i] = i;
        }
        for (int i = 1; i <= m; i++) {
            long sum = sumOf(i);
            if (sum < 1 || sum > m) {
                continue;
            }
            int one = leastOfFamily(i);
            int two = leastOfFamily((int) sum);
            marks[Math.max(one, two)] = Math.min(one, two);
        }
    }

    private int leastOfFamily(int n) {
        int at = n;
        for (int i = 0; i < marks.length && marks[at] < at; i++) {
            at = marks[at];
        }
        return at;
    }

    /** How many numbers each family has, told at its least one. */
    private void countFamilies(int m) {
        for (int i = 0; i < sums.length; i++) {
            sums[i] = 0;
        }
        for (int i = 1; i <= m; i++) {
            sums[leastOfFamily(i)]++;
        }
    }

    private boolean isPrimitive(int n) {
        if (kindBy(PLAIN, n) != RICH) {
            return false;
        }
        primes.split(n);
        int many = primes.count;
        // A number's multiples have a greater INDEX, so the greatest divisors tell for all.
        for (int i = 0; i < many; i++) {
            primes.split(n);
            int divisor = n / Math.max(1, primes.prime[i]);
            if (kindBy(PLAIN, divisor) != SHORT) {
                return false;
            }
        }
        return true;
    }

    /**
     * How many SUMS lead from a number to n, by numbers up to m alone; 0 if they don't.
     * From n itself that is the length of its ROUND, where the way back comes to n again.
     */
    private int stepsTo(int n, int from, int m) {
        long at = from;
        for (int steps = 1; steps <= m + 1; steps++) {
            long next = sums[(int) at];
            if (next == at) {
                return 0;
            }
            if (next == n) {
                return steps;
            }
            if (next < 1 || next > m) {
                return 0;
            }
            at = next;
        }
        return 0;
    }

    // ---- rows, further on

    private static int keptPlaces(Walk walk) {
        int found = 0;
        for (int k = 1; k < walk.count; k++) {
            int guide = guideOf(walk.values[k]);
            found += guide != 0 && guide == guideOf(walk.values[k - 1]) ? 1 : 0;
        }
        return found;
    }

    private int driverPlaces(Walk walk) {
        int found = 0;
        for (int k = 0; k < walk.count; k++) {
            found += hasDriver(walk.values[k]) ? 1 : 0;
        }
        return found;
    }

    private int firstDriver(Walk walk) {
        for (int k = 0; k < walk.count; k++) {
            if (hasDriver(walk.values[k])) {
                return k;
            }
        }
        return NONE;
    }

    private static int longestSpell(Walk walk) {
        int longest = 0;
        int spell = 0;
        int latest = 0;
        for (int k = 0; k < walk.count; k++) {
            int guide = guideOf(walk.values[k]);
            if (guide == 0) {
                spell = 0;
            } else {
                spell = guide == latest ? spell + 1 : 1;
            }
            latest = guide;
            longest = Math.max(longest, spell);
        }
        return longest;
    }

    /** Marks each PLACE with its GUIDE, or 0; how many PLACES there are. */
    private int markGuides(Walk walk) {
        int size = Math.min(walk.count, marks.length);
        for (int k = 0; k < size; k++) {
            marks[k] = guideOf(walk.values[k]);
        }
        return size;
    }

    // ---- ranges, further on

    private boolean isCounted(int n, int what) {
        if (what == 3) {
            return primes.isPrime(n);
        }
        return what == 4 ? hasDriver(n) : kindBy(desk.law, n) == what;
    }

    /** The mate of n, if n is the lesser one, else NONE. */
    private int greaterMate(int n) {
        long mate = sumOf(n);
        if (mate <= n || mate > GREATEST) {
            return NONE;
        }
        return sumOf((int) mate) == n ? (int) mate : NONE;
    }

    private boolean isRing(int n, int length) {
        int at = n;
        for (int i = 1; i < length; i++) {
            long next = sumOf(at);
            if (next <= n || next > GREATEST) {
                return false;
            }
            at = (int) next;
        }
        return sumOf(at) == n;
    }

    /** How many of the first marks are that at i. */
    private int countMarks(int first, int i) {
        int found = 0;
        for (int j = 0; j < first && j < marks.length && i < marks.length; j++) {
            found += marks[j] == marks[i] ? 1 : 0;
        }
        return found;
    }

    /** What acts change. */
    private static final class Desk {
        final int[] starts = new int[MOST_ROWS];
        int count = 0;
        int bound = 0;
        int steps = 0;
        int law = 0;

        Desk() {
            clear();
        }

        void clear() {
            count = 0;
            bound = 100_000;
            steps = 30;
            law = PLAIN;
        }

        void copyFrom(Desk desk) {
            for (int i = 0; i < starts.length; i++) {
                starts[i] = desk.starts[i];
            }
            count = desk.count;
            bound = desk.bound;
            steps = desk.steps;
            law = desk.law;
        }

        void addRow(int n) {
            if (count < starts.length) {
                starts[count] = n;
                count++;
            }
        }

        void removeRow(int r) {
            for (int i = r + 1; i < count && i < starts.length; i++) {
                starts[i - 1] = starts[i];
            }
            count--;
        }
    }

    /** The tape, and the text on it, TOKEN by TOKEN. */
    private static final class Reader {
        private static final int END = 0;
        private static final int WORD = 1;
        private static final int NUMBER = 2;
        private static final int SIGN = 3;
        private static final int NO_TOKEN = 4;

        private static final int NO_TOKEN_BEGINS = 1;
        private static final int CANNOT_STAND = 2;
        private static final int CANNOT_BE = 3;
        private static final int NAME_IS_HAD = 4;
        private static final int SEVENTH_ROW = 5;

        private static final int ROW_LINE = 0;
        private static final int BOUND_LINE = 1;
        private static final int STEPS_LINE = 2;
        private static final int LAW_LINE = 3;

        private static final int LONGEST_WORD = 8;
        private static final int LONGEST_NUMBER = 9;

        private final int[] text = new int[MOST_BYTES];
        private final long[] names = new long[MOST_ROWS];
        private int size = 0;
        private int next = 0;
        private int place = 0;
        private int token = END;
        private long word = 0;
        private int number = 0;
        int taped = 0;
        int fault = 0;
        int faultPlace = NONE;

        void tapeFour(int bytes) {
            for (int shift = 24; shift >= 0 && taped < text.length; shift -= 8) {
                text[taped] = (bytes >>> shift) & 255;
                taped++;
            }
        }

        /** Empties the tape; whether its first bytes are a DESK (if not, fault and faultPlace tell why). */
        boolean readDesk(int bytes, Desk desk) {
            size = Math.min(bytes, taped);
            taped = 0;
            next = 0;
            fault = 0;
            faultPlace = NONE;
            desk.clear();
            for (int lines = 0; lines <= size; lines++) {
                step();
                if (token == END) {
                    return true;
                }
                if (!readLine(desk)) {
                    return false;
                }
            }
            return true;
        }

        private boolean readLine(Desk desk) {
            if (token != WORD) {
                return fail(CANNOT_STAND);
            }
            boolean good;
            switch (lineOf(word)) {
                case ROW_LINE:
                    return readRow(desk);
                case BOUND_LINE:
                    good = readNumber(GREATEST);
                    desk.bound = number;
                    return good && readSign();
                case STEPS_LINE:
                    good = readNumber(MOST_STEPS);
                    desk.steps = number;
                    return good && readSign();
                case LAW_LINE:
                    good = readLaw();
                    desk.law = lawOf(word);
                    return good && readSign();
                default:
                    return fail(CANNOT_STAND);
            }
        }

        private boolean readRow(Desk desk) {
            int row = desk.count;
            if (row >= names.length) {
                return fail(SEVENTH_ROW);
            }
            if (!readName(row)) {
                return false;
            }
            names[row] = word;
            if (!readNumber(GREATEST)) {
                return false;
            }
            desk.addRow(number);
            return readSign();
        }

        private boolean readName(int rows) {
            step();
            if (token != WORD || lineOf(word) != NONE || lawOf(word) != NONE) {
                return fail(CANNOT_STAND);
            }
            for (int i = 0; i < rows && i < names.length; i++) {
                if (names[i] == word) {
                    return fail(NAME_IS_HAD);
                }
            }
            return true;
        }

        private boolean readNumber(int most) {
            step();
            if (token != NUMBER) {
                return fail(CANNOT_STAND);
            }
            return number >= 1 && number <= most || fail(CANNOT_BE);
        }

        private boolean readLaw() {
            step();
            return token == WORD && lawOf(word) != NONE || fail(CANNOT_STAND);
        }

        private boolean readSign() {
            step();
            return token == SIGN || fail(CANNOT_STAND);
        }

        /** Never true, so that a caller can answer with it. */
        private boolean fail(int kind) {
            fault = token == NO_TOKEN ? NO_TOKEN_BEGINS : kind;
            faultPlace = place;
            return false;
        }

        private void step() {
            while (next < size && (text[next] == 10 || text[next] == 32)) {
                next++;
            }
            place = next;
            word = 0;
            number = 0;
            int letters = endOfRun('a', 'z');
            int digits = endOfRun('0', '9');
            if (next >= size) {
                token = END;
            } else if (letters > next) {
                takeWord(letters);
            } else if (digits > next) {
                takeNumber(digits);
            } else {
                token = text[next] == ';' ? SIGN : NO_TOKEN;
                next++;
            }
        }

        private int endOfRun(char low, char high) {
            int end = next;
            while (end < size && text[end] >= low && text[end] <= high) {
                end++;
            }
            return end;
        }

        private void takeWord(int end) {
            token = end - place <= LONGEST_WORD ? WORD : NO_TOKEN;
            for (; next < end && token == WORD; next++) {
                word = word * 32 + (text[next] - 'a' + 1);
            }
            next = end;
        }

        private void takeNumber(int end) {
            token = end - place <= LONGEST_NUMBER ? NUMBER : NO_TOKEN;
            for (; next < end && token == NUMBER; next++) {
                number = number * 10 + (text[next] - '0');
            }
            next = end;
        }

        /** A WORD as one number, five bits for each letter. */
        private static long codeOf(String letters) {
            long code = 0;
            for (int i = 0; i < letters.length(); i++) {
                code = code * 32 + (letters.charAt(i) - 'a' + 1);
            }
            return code;
        }

        private static int lineOf(long word) {
            if (word == codeOf("row")) {
                return ROW_LINE;
            }
            if (word == codeOf("bound")) {
                return BOUND_LINE;
            }
            if (word == codeOf("steps")) {
                return STEPS_LINE;
            }
            return word == codeOf("law") ? LAW_LINE : NONE;
        }

        private static int lawOf(long word) {
            if (word == codeOf("plain")) {
                return PLAIN;
            }
            if (word == codeOf("unitary")) {
                return UNITARY;
            }
            if (word == codeOf("reduced")) {
                return REDUCED;
            }
            return word == codeOf("bare") ? BARE : NONE;
        }
    }

    /** A number as its primes, and what can be told from them. */
    private static final class Primes {
        private static final int[] SMALL = {
            2, 3, 5, 7, 11, 13, 17, 19, 23, 29, 31, 37, 41, 43, 47, 53, 59, 61, 67, 71, 73, 79,
            83, 89, 97, 101, 103, 107, 109, 113, 127, 131, 137, 139, 149, 151, 157, 163, 167,
            173, 179, 181, 191, 193, 197, 199, 211, 223, 227, 229, 233, 239, 241, 251, 257,
            263, 269, 271, 277, 281, 283, 293, 307, 311, 313, 317, 331, 337, 347, 349, 353,
            359, 367, 373, 379, 383, 389, 397, 401, 409, 419, 421, 431, 433, 439, 443, 449,
            457, 461, 463, 467, 479, 487, 491, 499, 503, 509, 521, 523, 541, 547, 557, 563,
            569, 571, 577, 587, 593, 599, 601, 607, 613, 617, 619, 631, 641, 643, 647, 653,
            659, 661, 673, 677, 683, 691, 701, 709, 719, 727, 733, 739, 743, 751, 757, 761,
            769, 773, 787, 797, 809, 811, 821, 823, 827, 829, 839, 853, 857, 859, 863, 877,
            881, 883, 887, 907, 911, 919, 929, 937, 941, 947, 953, 967, 971, 977, 983, 991, 997
        };
        /** The first prime that isn't SMALL. */
        private static final int NEXT_PRIME = 1_009;
        /** No number up to GREATEST has more than nine primes. */
        private static final int MOST_PRIMES = 9;

        final int[] prime = new int[MOST_PRIMES];
        final int[] times = new int[MOST_PRIMES];
        private final int[] falling = new int[MOST_PRIMES];
        int count = 0;

        void split(int n) {
            count = 0;
            int left = n;
            for (int i = 0; i < SMALL.length && SMALL[i] * SMALL[i] <= left; i++) {
                left = takeOut(left, SMALL[i]);
            }
            // What is left has no SMALL prime then, or it is one itself: two primes at most.
            // 2, 7 and 61 tell all odd numbers below 4,759,123,141 rightly.
            if (left >= NEXT_PRIME * NEXT_PRIME
                && !(passes(left, 2) && passes(left, 7) && passes(left, 61))) {
                left = takeOut(left, leastLargePrime(left));
            }
            if (left > 1) {
                addPrime(left, 1);
            }
        }

        private int takeOut(int n, int p) {
            int left = n;
            int often = 0;
            for (int i = 0; i < 32 && p > 1 && left % p == 0; i++) {
                left /= p;
                often++;
            }
            if (often > 0) {
                addPrime(p, often);
            }
            return left;
        }

        private void addPrime(int p, int often) {
            if (count < MOST_PRIMES) {
                prime[count] = p;
                times[count] = often;
                count++;
            }
        }

        private static int leastLargePrime(int n) {
            for (int p = NEXT_PRIME; p <= n / p; p += 6) {
                if (n % p == 0) {
                    return p;
                }
                if (n % (p + 4) == 0) {
                    return p + 4;
                }
            }
            return n;
        }

        /** Whether an odd n is a prime as far as the base can tell. */
        private static boolean passes(int n, int base) {
            int odd = n - 1;
            int halved = 0;
            for (; odd > 1 && odd % 2 == 0; odd /= 2) {
                halved++;
            }
            long power = powerModulo(base, odd, n);
            if (power == 1 || power == n - 1) {
                return true;
            }
            for (int i = 1; i < halved && n > 0; i++) {
                power = power * power % n;
                if (power == n - 1) {
                    return true;
                }
            }
            return false;
        }

        private static long powerModulo(int base, int exponent, int n) {
            long power = 1;
            long square = base;
            for (int left = exponent; left > 0 && n > 0; left /= 2) {
                if (left % 2 != 0) {
                    power = power * square % n;
                }
                square = square * square % n;
            }
            return power;
        }

        boolean isPrime(int n) {
            split(n);
            return count == 1 && times[0] == 1;
        }

        int countDivisors(int n) {
            split(n);
            int all = 1;
            for (int i = 0; i < count; i++) {
                all *= times[i] + 1;
            }
            return all;
        }

        /** All divisors added, n itself, too. */
        long addDivisors(int n) {
            split(n);
            return addAll();
        }

        private long addAll() {
            long all = 1;
            for (int i = 0; i < count; i++) {
                all *= addPowers(i);
            }
            return all;
        }

        /** The divisors of what the number has of its i-th prime, added. */
        private long addPowers(int i) {
            long all = 1;
            for (int j = 0; j < times[i]; j++) {
                all = all * prime[i] + 1;
            }
            return all;
        }

        private static long power(int p, int often) {
            long power = 1;
            for (int i = 0; i < often; i++) {
                power *= p;
            }
            return power;
        }

        int thousandth(int i) {
            return (int) (1000 * addPowers(i) / Math.max(1, power(prime[i], times[i])));
        }

        long sumBy(int law, int n) {
            if (n <= 1) {
                return 0;
            }
            split(n);
            if (law == UNITARY) {
                return addUnitary() - n;
            }
            if (law == BARE) {
                return addBare() - (isBare() ? n : 0);
            }
            return addAll() - n - (law == REDUCED ? 1 : 0);
        }

        private long addUnitary() {
            long all = 1;
            for (int i = 0; i < count; i++) {
                all *= power(prime[i], times[i]) + 1;
            }
            return all;
        }

        private long addBare() {
            long all = 1;
            for (int i = 0; i < count; i++) {
                all *= prime[i] + 1;
            }
            return all;
        }

        private boolean isBare() {
            for (int i = 0; i < count; i++) {
                if (times[i] > 1) {
                    return false;
                }
            }
            return true;
        }

        /** Each prime must be at most one more than all divisors of what the less ones make. */
        boolean isPractical() {
            long all = 1;
            for (int i = 0; i < count; i++) {
                if (prime[i] > all + 1) {
                    return false;
                }
                all *= addPowers(i);
            }
            return true;
        }

        /** The least number with the same SHAPE stands for it. */
        int shapeOf(int n) {
            split(n);
            sortFalling();
            long least = 1;
            for (int i = 0; i < count; i++) {
                least *= power(SMALL[i], falling[i]);
            }
            return (int) least;
        }

        private void sortFalling() {
            for (int i = 0; i < count; i++) {
                int at = i;
                for (; at > 0 && falling[at - 1] < times[i]; at--) {
                    falling[at] = falling[at - 1];
                }
                falling[at] = times[i];
            }
        }
    }

    /** The VALUES of one ROW, and how it ENDS. */
    private static final class Walk {
        final int[] values = new int[MOST_STEPS + 1];
        int count = 0;
        int end = LONG;
        /** The PLACE where its ROUND begins. */
        int back = NONE;
        boolean told = false;

        void tell(int start, int law, Desk desk, Primes primes) {
            values[0] = start;
            count = 1;
            end = LONG;
            back = NONE;
            told = true;
            for (int i = 1; i <= desk.steps && i < values.length; i++) {
                long sum = primes.sumBy(law, values[i - 1]);
                back = placeOf(sum);
                if (back != NONE) {
                    end = ROUND;
                    return;
                }
                if (sum > desk.bound) {
                    end = BEYOND;
                    return;
                }
                values[i] = (int) sum;
                count++;
                if (sum == 0) {
                    end = NOUGHT;
                    return;
                }
            }
        }

        int placeOf(long v) {
            for (int k = 0; k < count; k++) {
                if (values[k] == v) {
                    return k;
                }
            }
            return NONE;
        }

        int lastValue() {
            return values[Math.max(0, count - 1)];
        }

        int leastOfRound() {
            int least = lastValue();
            for (int k = Math.max(0, back); k < count; k++) {
                least = Math.min(least, values[k]);
            }
            return least;
        }

        int peakPlace() {
            int peak = 0;
            for (int k = 1; k < count; k++) {
                if (values[k] > values[peak]) {
                    peak = k;
                }
            }
            return peak;
        }

        /** Where the first one of the longest CLIMBS begins. */
        int climbPlace() {
            int best = 0;
            for (int k = 1; k < count; k++) {
                if (climbFrom(k) > climbFrom(best)) {
                    best = k;
                }
            }
            return best;
        }

        int climbFrom(int first) {
            int next = first + 1;
            while (next < count && values[next] > values[next - 1]) {
                next++;
            }
            return next - first;
        }

        /** The first PLACE where another ROW is unlike, or NONE. */
        int splitFrom(Walk walk) {
            int both = Math.min(count, walk.count);
            for (int k = 0; k < both; k++) {
                if (values[k] != walk.values[k]) {
                    return k;
                }
            }
            return count == walk.count ? NONE : both;
        }

        int countAbove(Walk walk) {
            int found = 0;
            for (int k = 0; k < count && k < walk.count; k++) {
                found += values[k] > walk.values[k] ? 1 : 0;
            }
            return found;
        }

        int countTurns(Walk walk) {
            int turns = 0;
            int latest = 0;
            for (int k = 0; k < count && k < walk.count; k++) {
                int leader = Integer.compare(values[k], walk.values[k]);
                if (leader == 0) {
                    continue;
                }
                turns += latest != 0 && (leader > 0) != (latest > 0) ? 1 : 0;
                latest = leader;
            }
            return turns;
        }
    }

    /** OUT. */
    private static final class Ink {
        /** A VALUE's primes take 27 bytes at most. */
        final int[] bytes = new int[(MOST_STEPS + 1) * 32];
        int count = 0;

        void writeRow(Walk walk, Primes primes) {
            count = 0;
            for (int k = 0; k < walk.count; k++) {
                if (k > 0) {
                    write(' ');
                }
                writeValue(walk.values[k], primes);
            }
        }

        private void writeValue(int v, Primes primes) {
            if (v <= 1) {
                writeNumber(v);
                return;
            }
            primes.split(v);
            for (int i = 0; i < primes.count; i++) {
                if (i > 0) {
                    write('*');
                }
                writeNumber(primes.prime[i]);
                if (primes.times[i] > 1) {
                    write('^');
                    writeNumber(primes.times[i]);
                }
            }
        }

        private void writeNumber(int number) {
            int unit = 1;
            for (int i = 0; i < 9 && number / unit >= 10; i++) {
                unit *= 10;
            }
            for (; unit > 0; unit /= 10) {
                write('0' + number / unit % 10);
            }
        }

        private void write(int sign) {
            if (count < bytes.length) {
                bytes[count] = sign;
                count++;
            }
        }
    }
}
