import java.math.BigInteger;
import java.util.ArrayList;
import java.util.Arrays;
import java.util.List;

/**
 * Runs of calls beside a plain model that takes the document at its word: it goes through all rows and sets, and
 * where the rows are too many for that, through all sets with determinants. No object is called over 512 times.
 */
public final class OracleTest {
    private static final int[] SMALL = {2, 3, 5};
    private static final int[] ALL = {2, 3, 5, 7, 11, 13, 23, 47, 89, 97};
    private static int wrong = 0;
    private static int calls = 0;
    private static long seed = 1;
    private static String run = "";

    public static void main(String[] args) {
        for (int i = 0; i < 1500; i++) {
            run = "table " + i;
            seed = 7919L * i + 17;
            tableRun(SMALL[pick(SMALL.length)], 1 + pick(6), 1 + pick(7), 4);
        }
        for (int i = 0; i < 150; i++) {
            run = "wide " + i;
            seed = 104729L * i + 5;
            tableRun(SMALL[pick(2)], 1 + pick(6), 8 + pick(5), 3);
        }
        for (int i = 0; i < 250; i++) {
            run = "prime " + i;
            seed = 611953L * i + 3;
            tableRun(ALL[pick(ALL.length)], 1 + pick(6), 1 + pick(12), 1 + pick(2));
        }
        for (int i = 0; i < 300; i++) {
            run = "deep " + i;
            seed = 32452843L * i + 11;
            deepRun(ALL[pick(ALL.length)], 1 + pick(6), 1 + pick(12));
        }
        for (int i = 0; i < 2000; i++) {
            run = "sketch " + i;
            seed = 15485863L * i + 29;
            sketchRun();
        }
        System.out.println(calls + " calls, " + wrong + " answers are not as due");
        if (wrong != 0) {
            System.exit(1);
        }
    }

    private static int pick(int bound) {
        seed = seed * 6364136223846793005L + 1442695040888963407L;
        return (int) ((seed >>> 33) % bound);
    }

    private static void due(String call, long got, long want) {
        calls++;
        if (got != want) {
            wrong++;
            if (wrong < 40) {
                System.out.println(run + ": " + call + " answered " + got + ", due is " + want);
            }
        }
    }

    /** mostly a number from 0 up to the bound, at times one beside it */
    private static int near(int bound) {
        int odd = pick(40);
        return odd == 0 ? -1 : odd == 1 ? bound : odd == 2 ? Integer.MIN_VALUE + pick(3) : pick(bound);
    }

    private static void tableRun(int p, int m, int n, int mostWeight) {
        FewThatMatter x = new FewThatMatter();
        Plain plain = new Plain();
        anyTable(x, plain, p, m, n);
        for (int t = 0; t < 40; t++) {
            step(x, plain, mostWeight);
        }
        for (int i = 0; i < m; i++) {
            for (int j = 0; j < n; j++) {
                due("at", x.at(i, j), plain.at(i, j));
            }
        }
        for (int w = 0; w < 6; w++) {
            for (int j = -1; j < n; j++) {
                due("row", x.row(w, j), plain.row(w, j));
            }
            for (int i = -1; i < m; i++) {
                due("told", x.told(w, i), plain.told(w, i));
            }
        }
    }

    private static void anyTable(FewThatMatter x, Plain plain, int p, int m, int n) {
        due("begin", x.begin(p, m, n), plain.begin(p, m, n));
        int density = 1 + pick(4);
        if (pick(4) == 0) {
            int a = pick(p);
            due("powers", x.powers(a), plain.powers(a));
            return;
        }
        for (int i = 0; i < m; i++) {
            for (int j = 0; j < n; j++) {
                int v = pick(4) < density ? pick(2 * p) - p : 0;
                due("set", x.set(i, j, v), plain.set(i, j, v));
            }
        }
    }

    /** Rows of weight up to 5 are told, some sums made false, and found again with every weight allowed. */
    private static void deepRun(int p, int m, int n) {
        FewThatMatter x = new FewThatMatter();
        Plain plain = new Plain();
        anyTable(x, plain, p, m, n);
        for (int t = 0; t < 6; t++) {
            int hidden = pick(6);
            for (int places = pick(6); places > 0; places--) {
                int j = pick(n);
                int v = pick(p);
                due("put", x.put(hidden, j, v), plain.put(hidden, j, v));
            }
            int y = pick(6);
            due("tell", x.tell(y, hidden), plain.tell(y, hidden));
            int row = pick(6);
            int k = pick(5);
            due("find(" + k + ")", x.find(row, y, k), plain.find(row, y, k));
            sameRow(x, plain, row);
            for (int falseSums = pick(4); falseSums > 0; falseSums--) {
                int i = pick(m);
                int v = pick(p);
                due("sum", x.sum(y, i, v), plain.sum(y, i, v));
            }
            row = pick(6);
            k = pick(4);
            int e = pick(4);
            due("miss(" + k + ", " + e + ")", x.miss(row, y, k, e), plain.miss(row, y, k, e));
            sameRow(x, plain, row);
            k = pick(9);
            due("greedy(" + k + ")", x.greedy(row, y, k), plain.greedy(row, y, k));
            sameRow(x, plain, row);
        }
        for (int what = 0; what < 4; what++) {
            due("judge(" + what + ")", x.judge(what), plain.judge(what));
        }
    }

    private static void sameRow(FewThatMatter x, Plain plain, int row) {
        for (int j = -1; j < plain.n; j++) {
            due("row(" + row + ", " + j + ")", x.row(row, j), plain.row(row, j));
        }
    }

    private static void step(FewThatMatter x, Plain plain, int mostWeight) {
        int a = near(6);
        int b = near(6);
        int v = pick(5) == 0 ? pick(Integer.MAX_VALUE) - (1 << 30) : pick(2 * plain.p) - plain.p;
        switch (pick(13)) {
            case 0: {
                int i = near(plain.m);
                int j = near(plain.n);
                due("set(" + i + ", " + j + ", " + v + ")", x.set(i, j, v), plain.set(i, j, v));
                break;
            }
            case 1: {
                int what = near(4);
                due("judge(" + what + ")", x.judge(what), plain.judge(what));
                break;
            }
            case 2:
            case 3: {
                int j = near(plain.n);
                due("put", x.put(a, j, v), plain.put(a, j, v));
                break;
            }
            case 4:
            case 5: {
                int i = near(plain.m);
                due("sum", x.sum(a, i, v), plain.sum(a, i, v));
                break;
            }
            case 6:
            case 7:
                due("tell", x.tell(a, b), plain.tell(a, b));
                break;
            case 8:
            case 9: {
                int k = near(mostWeight + 1);
                k = k == mostWeight + 1 && mostWeight < 4 ? 5 : k;
                due("find(" + a + ", " + b + ", " + k + ")", x.find(a, b, k), plain.find(a, b, k));
                break;
            }
            case 10:
            case 11: {
                int most = Math.min(mostWeight, 3);
                int k = near(most + 1);
                k = k == most + 1 ? 4 : k;
                int e = near(4);
                due("miss(" + a + ", " + b + ", " + k + ", " + e + ")", x.miss(a, b, k, e), plain.miss(a, b, k, e));
                break;
            }
            default: {
                int k = near(9);
                due("greedy(" + a + ", " + b + ", " + k + ")", x.greedy(a, b, k), plain.greedy(a, b, k));
                break;
            }
        }
        if (a >= 0 && a < 6) {
            due("row weight", x.row(a, -1), plain.row(a, -1));
        }
    }

    private static void sketchRun() {
        FewThatMatter x = new FewThatMatter();
        Buckets plain = new Buckets();
        int d = 1 + pick(4);
        int b = pick(2) == 0 ? 2 + pick(4) : 2 + pick(31);
        due("sketch", x.sketch(d, b), plain.sketch(d, b));
        int puts = pick(30);
        int span = pick(2) == 0 ? 60 : 1000000;
        for (int t = 0; t < puts; t++) {
            if (pick(6) == 0) {
                falseSingle(x, plain, span);
            } else {
                int q = pick(30) == 0 ? 1000000 - pick(2) : pick(span);
                int v = pick(30) == 0 ? 1001 - pick(2) : pick(15) - 7;
                due("add", x.add(q, v), plain.add(q, v));
            }
            if (pick(12) == 0) {
                due("decode()", x.decode(), plain.decode());
            }
        }
        due("decode()", x.decode(), plain.decode());
        for (int i = -1; i < 103; i++) {
            for (int what = 0; what < 2; what++) {
                due("decoded(" + i + ", " + what + ")", x.decoded(i, what), plain.decoded(i, what));
            }
        }
        for (int t = 0; t < 100; t++) {
            int line = near(d);
            int bucket = near(b);
            int what = near(3);
            due("bucket", x.bucket(line, bucket, what), plain.bucket(line, bucket, what));
        }
        due("count(5)", x.count(5), plain.puts);
    }

    /** three places that look like one at a fourth place */
    private static void falseSingle(FewThatMatter x, Buckets plain, int span) {
        int step = 1 + pick(40);
        int q = pick(Math.max(1, span - 3 * step));
        int c = 1 + pick(5);
        int[] numbers = {0, 3 * c, -3 * c, c};
        for (int t = 1; t < 4; t++) {
            int place = q + t * step;
            due("add", x.add(place, numbers[t]), plain.add(place, numbers[t]));
        }
    }

    private static int weightOf(int[] places) {
        int weight = 0;
        for (int place : places) {
            weight += place != 0 ? 1 : 0;
        }
        return weight;
    }

    /** The parts 1 to 3 of the document, by going through everything. */
    private static final class Plain {
        int p = 11;
        int m = 1;
        int n = 1;
        int[][] table = new int[1][1];
        int[][] rows = new int[6][1];
        int[][] sums = new int[6][1];
        int best;
        int bestDiffers;
        int[] bestRow;
        int ofThatWeight;

        int begin(int p, int m, int n) {
            this.p = p;
            this.m = m;
            this.n = n;
            table = new int[m][n];
            rows = new int[6][n];
            sums = new int[6][m];
            return 0;
        }

        int by(long v) {
            return (int) (((v % p) + p) % p);
        }

        int set(int i, int j, int v) {
            if (i < 0 || i >= m || j < 0 || j >= n) {
                return -1;
            }
            int was = table[i][j];
            table[i][j] = by(v);
            return was;
        }

        int powers(int a) {
            for (int i = 0; i < m; i++) {
                for (int j = 0; j < n; j++) {
                    table[i][j] = BigInteger.valueOf(j + 1).pow(i).multiply(BigInteger.valueOf(a))
                        .mod(BigInteger.valueOf(p)).intValue();
                }
            }
            return 0;
        }

        int at(int i, int j) {
            return table[i][j];
        }

        boolean none(int which) {
            return which < 0 || which > 5;
        }

        int put(int row, int j, int v) {
            if (none(row) || j < 0 || j >= n) {
                return -1;
            }
            rows[row][j] = by(v);
            return weightOf(rows[row]);
        }

        int row(int row, int j) {
            return j < 0 ? weightOf(rows[row]) : rows[row][j];
        }

        int sum(int which, int i, int v) {
            if (none(which) || i < 0 || i >= m) {
                return -1;
            }
            sums[which][i] = by(v);
            return weightOf(sums[which]);
        }

        int told(int which, int i) {
            return i < 0 ? weightOf(sums[which]) : sums[which][i];
        }

        int[] tells(int[] row) {
            int[] told = new int[m];
            for (int i = 0; i < m; i++) {
                long total = 0;
                for (int j = 0; j < n; j++) {
                    total += table[i][j] * row[j];
                }
                told[i] = by(total);
            }
            return told;
        }

        int tell(int which, int row) {
            if (none(which) || none(row)) {
                return -1;
            }
            sums[which] = tells(rows[row]);
            return weightOf(sums[which]);
        }

        int judge(int what) {
            switch (what) {
                case 0: return rank();
                case 1: return spark();
                case 2: {
                    int k = 0;
                    while (spark() > 2 * (k + 1)) {
                        k++;
                    }
                    return k;
                }
                case 3: return like();
                default: return -1;
            }
        }

        int rank() {
            int most = 0;
            for (int set = 1; set < 1 << n; set++) {
                if (Integer.bitCount(set) > most && !bound(set)) {
                    most = Integer.bitCount(set);
                }
            }
            return most;
        }

        int spark() {
            int least = n + 1;
            for (int set = 1; set < 1 << n; set++) {
                if (Integer.bitCount(set) < least && bound(set)) {
                    least = Integer.bitCount(set);
                }
            }
            return least;
        }

        boolean bound(int set) {
            if (Math.pow(p, Integer.bitCount(set)) < 300) {
                return boundByFactors(set, 0, new int[n]);
            }
            return boundByMinors(set);
        }

        boolean boundByFactors(int set, int j, int[] row) {
            if (j == n) {
                return weightOf(row) > 0 && weightOf(tells(row)) == 0;
            }
            for (int f = 0; f < ((set >> j & 1) == 0 ? 1 : p); f++) {
                row[j] = f;
                if (boundByFactors(set, j + 1, row)) {
                    return true;
                }
            }
            row[j] = 0;
            return false;
        }

        /** bound, just if all determinants of as many rows are nought */
        boolean boundByMinors(int set) {
            int size = Integer.bitCount(set);
            if (size > m) {
                return true;
            }
            for (int chosen = 0; chosen < 1 << m; chosen++) {
                if (Integer.bitCount(chosen) == size && determinant(chosen, set) != 0) {
                    return false;
                }
            }
            return true;
        }

        int determinant(int chosen, int set) {
            if (chosen == 0) {
                return 1;
            }
            int i = Integer.numberOfTrailingZeros(chosen);
            long total = 0;
            int sign = 1;
            for (int j = 0; j < n; j++) {
                if ((set >> j & 1) != 0) {
                    if (table[i][j] != 0) {
                        total += sign * table[i][j] * determinant(chosen & ~(1 << i), set & ~(1 << j));
                    }
                    sign = -sign;
                }
            }
            return by(total);
        }

        int like() {
            int most = 0;
            for (int a = 0; a < n; a++) {
                for (int b = 0; b < n; b++) {
                    for (int f = 1; f < p && a != b; f++) {
                        int places = 0;
                        for (int i = 0; i < m; i++) {
                            places += table[i][a] == f * table[i][b] % p ? 1 : 0;
                        }
                        most = Math.max(most, places);
                    }
                }
            }
            return most;
        }

        int find(int row, int which, int k) {
            if (none(row) || none(which) || k < 0 || k > 4) {
                return -1;
            }
            seek(sums[which], k, 0);
            if (best < 0) {
                return -2;
            }
            rows[row] = bestRow;
            return best + (ofThatWeight == 1 ? 100 : 0);
        }

        int miss(int row, int which, int k, int e) {
            if (none(row) || none(which) || k < 0 || k > 3 || e < 0 || e > 3) {
                return -1;
            }
            seek(sums[which], k, e);
            if (best < 0) {
                return -2;
            }
            rows[row] = bestRow;
            return best + 100 * bestDiffers;
        }

        void seek(int[] y, int k, int e) {
            best = -1;
            for (int weight = 0; weight <= k && best < 0; weight++) {
                bestRow = null;
                ofThatWeight = 0;
                for (int set = 0; set < 1 << n; set++) {
                    if (Integer.bitCount(set) == weight && Math.pow(p - 1, weight) < 10000) {
                        fill(y, e, set, 0, new int[n]);
                    } else if (Integer.bitCount(set) == weight) {
                        solve(y, e, set, weight);
                    }
                }
                if (bestRow != null) {
                    best = weight;
                }
            }
        }

        /** sets come by their numbers, and the rows of a set place by place: only fewer misses are better later */
        void fill(int[] y, int e, int set, int j, int[] row) {
            if (j < n) {
                boolean in = (set >> j & 1) != 0;
                for (int v = in ? 1 : 0; v < (in ? p : 1); v++) {
                    row[j] = v;
                    fill(y, e, set, j + 1, row);
                }
                row[j] = 0;
                return;
            }
            int differs = differs(row, y);
            if (differs <= e) {
                ofThatWeight++;
                if (bestRow == null || differs < bestDiffers) {
                    bestRow = row.clone();
                    bestDiffers = differs;
                }
            }
        }

        int differs(int[] row, int[] y) {
            int[] told = tells(row);
            int differs = 0;
            for (int i = 0; i < m; i++) {
                differs += told[i] != y[i] ? 1 : 0;
            }
            return differs;
        }

        /**
         * The rows of a set that agree with y in as many rows of the table as fix them. Where no such rows fix
         * them, the set is bound there and one column fewer does as well: a lesser weight had been found.
         */
        void solve(int[] y, int e, int set, int weight) {
            int[] least = null;
            int leastDiffers = e + 1;
            for (int chosen = 0; chosen < 1 << m; chosen++) {
                int[] row = Integer.bitCount(chosen) == weight ? cramer(y, chosen, set) : null;
                if (row != null && weightOf(row) == weight) {
                    int differs = differs(row, y);
                    boolean less = differs == leastDiffers && least != null && Arrays.compare(row, least) < 0;
                    if (differs < leastDiffers || less) {
                        least = row;
                        leastDiffers = differs;
                    }
                }
            }
            if (least != null) {
                ofThatWeight++;
                if (bestRow == null || leastDiffers < bestDiffers) {
                    bestRow = least;
                    bestDiffers = leastDiffers;
                }
            }
        }

        int[] cramer(int[] y, int chosen, int set) {
            int below = determinant(chosen, set);
            int[] row = new int[n];
            for (int j = 0; j < n && below != 0; j++) {
                if ((set >> j & 1) != 0) {
                    swapColumn(y, j);
                    int above = determinant(chosen, set);
                    swapColumn(y, j);
                    while (below * row[j] % p != above) {
                        row[j]++;
                    }
                }
            }
            return below == 0 ? null : row;
        }

        void swapColumn(int[] y, int j) {
            for (int i = 0; i < m; i++) {
                int was = table[i][j];
                table[i][j] = y[i];
                y[i] = was;
            }
        }

        int greedy(int row, int which, int k) {
            if (none(row) || none(which) || k < 0 || k > 8) {
                return -1;
            }
            int[] rest = sums[which].clone();
            int[] made = new int[n];
            boolean[] in = new boolean[n];
            for (int turn = 0; turn < k && weightOf(rest) > 0; turn++) {
                int least = weightOf(rest);
                int column = -1;
                int factor = 0;
                int[] after = rest;
                for (int j = 0; j < n; j++) {
                    for (int f = 0; f < p && !in[j]; f++) {
                        int[] trial = new int[m];
                        for (int i = 0; i < m; i++) {
                            trial[i] = by(rest[i] - f * table[i][j]);
                        }
                        if (weightOf(trial) < least) {
                            least = weightOf(trial);
                            column = j;
                            factor = f;
                            after = trial;
                        }
                    }
                }
                if (column < 0) {
                    break;
                }
                in[column] = true;
                made[column] = factor;
                rest = after;
            }
            rows[row] = made;
            boolean shown = weightOf(rest) == 0 && 2 * weightOf(made) < spark();
            return weightOf(rest) + (shown ? 100 : 0);
        }
    }

    /** The part 4 of the document over whole numbers of any size. */
    private static final class Buckets {
        static final BigInteger MODULUS = BigInteger.valueOf(1000003);
        int d = 1;
        int b = 2;
        int puts;
        List<long[]> all = new ArrayList<>();
        List<BigInteger[]> told = new ArrayList<>();

        int sketch(int d, int b) {
            this.d = d;
            this.b = b;
            puts = 0;
            all.clear();
            told.clear();
            return 0;
        }

        int add(int place, int v) {
            if (place > 999999 || v > 1000) {
                return -1;
            }
            all.add(new long[] {place, v});
            return ++puts;
        }

        int falls(int line, long q) {
            return (int) ((q * (2 * line + 3) + q / (5 * line + 7)) % b);
        }

        BigInteger[][][] sums() {
            BigInteger[][][] sums = new BigInteger[d][b][3];
            for (BigInteger[][] line : sums) {
                for (BigInteger[] bucket : line) {
                    Arrays.fill(bucket, BigInteger.ZERO);
                }
            }
            for (long[] put : all) {
                join(sums, put[0], BigInteger.valueOf(put[1]));
            }
            return sums;
        }

        void join(BigInteger[][][] sums, long q, BigInteger v) {
            BigInteger place = BigInteger.valueOf(q);
            for (int line = 0; line < d; line++) {
                BigInteger[] bucket = sums[line][falls(line, q)];
                bucket[0] = bucket[0].add(v);
                bucket[1] = bucket[1].add(v.multiply(place));
                bucket[2] = bucket[2].add(v.multiply(place).multiply(place)).mod(MODULUS);
            }
        }

        int decode() {
            told.clear();
            BigInteger[][][] sums = sums();
            while (told.size() < 200 && tellOne(sums)) {
                continue;
            }
            boolean whole = true;
            for (BigInteger[][] line : sums) {
                for (BigInteger[] bucket : line) {
                    for (BigInteger sum : bucket) {
                        whole &= sum.signum() == 0;
                    }
                }
            }
            return told.size() + (whole ? 10000 : 0);
        }

        boolean tellOne(BigInteger[][][] sums) {
            for (int line = 0; line < d; line++) {
                for (int i = 0; i < b; i++) {
                    BigInteger[] bucket = sums[line][i];
                    BigInteger s = bucket[0];
                    if (s.signum() == 0 || bucket[1].remainder(s).signum() != 0) {
                        continue;
                    }
                    BigInteger q = bucket[1].divide(s);
                    if (q.signum() < 0 || q.compareTo(BigInteger.valueOf(999999)) > 0
                        || falls(line, q.longValue()) != i || !s.multiply(q).multiply(q).mod(MODULUS).equals(bucket[2])) {
                        continue;
                    }
                    told.add(new BigInteger[] {q, s});
                    join(sums, q.longValue(), s.negate());
                    return true;
                }
            }
            return false;
        }

        int decoded(int i, int what) {
            if (i < 0) {
                return -1000000001;
            }
            if (i >= told.size() || i >= 100) {
                return -1000000004;
            }
            return told.get(i)[what].intValue();
        }

        long bucket(int line, int i, int what) {
            if (line < 0 || line >= d || i < 0 || i >= b || what < 0 || what > 2) {
                return -1000000000000000000L;
            }
            return sums()[line][i][what].longValueExact();
        }
    }
}
