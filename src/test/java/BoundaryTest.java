import java.util.Arrays;

/**
 * Each sentence of the document that names a boundary case, in the document's order, by a test of its own:
 * the least and the greatest number that is allowed, the ones beside them, and that a refused call changes
 * nothing. No object here is called more than 512 times, but where the document's own number needs it.
 */
public final class BoundaryTest {
    private static final int LEAST = Integer.MIN_VALUE;
    private static final int GREATEST = Integer.MAX_VALUE;
    private static final int BAD = FewThatMatter.BAD;
    private static final int NO = FewThatMatter.NO;
    private static final int FULL = FewThatMatter.FULL;
    private static final int DECODED_BAD = -1000000001;
    private static final int DECODED_NONE = -1000000004;
    private static final long BUCKET_BAD = -1000000000000000000L;
    private static final int[] PRIMES = {2, 3, 5, 7, 11, 13, 17, 19, 23, 29, 31, 37, 41, 43, 47, 53, 59, 61, 67, 71,
        73, 79, 83, 89, 97};

    private static int wrong = 0;
    private static int asked = 0;
    private static String sentence = "";
    private static String lastCall = "";

    public static void main(String[] args) {
        terms();
        tables();
        keptRowsAndSums();
        judged();
        found();
        missed();
        greedySteps();
        sketches();
        tellings();
        refusals();
        System.out.println(asked + " answers, " + wrong + " are not as due");
        if (wrong != 0) {
            System.exit(1);
        }
    }

    // ---- what the tests are made of

    private static void says(String words) {
        sentence = words;
    }

    private static void due(long got, long want) {
        asked++;
        if (got != want) {
            wrong++;
            System.out.println("\"" + sentence + "\": " + lastCall + " answered " + got + ", due is " + want);
        }
    }

    /** An object whose calls are counted and told by name when an answer is wrong. */
    private static final class Watched {
        private final FewThatMatter x = new FewThatMatter();
        private int calls = 0;

        private long heard(long answer, String name, int... numbers) {
            calls++;
            lastCall = name + Arrays.toString(numbers) + " as call " + calls;
            if (calls > 512) {
                due(calls, 512);
            }
            return answer;
        }

        long begin(int p, int m, int n) {
            return heard(x.begin(p, m, n), "begin", p, m, n);
        }

        long set(int i, int j, int v) {
            return heard(x.set(i, j, v), "set", i, j, v);
        }

        long powers(int a) {
            return heard(x.powers(a), "powers", a);
        }

        long at(int i, int j) {
            return heard(x.at(i, j), "at", i, j);
        }

        long judge(int what) {
            return heard(x.judge(what), "judge", what);
        }

        long put(int row, int j, int v) {
            return heard(x.put(row, j, v), "put", row, j, v);
        }

        long row(int row, int j) {
            return heard(x.row(row, j), "row", row, j);
        }

        long sum(int sums, int i, int v) {
            return heard(x.sum(sums, i, v), "sum", sums, i, v);
        }

        long told(int sums, int i) {
            return heard(x.told(sums, i), "told", sums, i);
        }

        long tell(int sums, int row) {
            return heard(x.tell(sums, row), "tell", sums, row);
        }

        long find(int row, int sums, int k) {
            return heard(x.find(row, sums, k), "find", row, sums, k);
        }

        long miss(int row, int sums, int k, int e) {
            return heard(x.miss(row, sums, k, e), "miss", row, sums, k, e);
        }

        long greedy(int row, int sums, int k) {
            return heard(x.greedy(row, sums, k), "greedy", row, sums, k);
        }

        long sketch(int d, int b) {
            return heard(x.sketch(d, b), "sketch", d, b);
        }

        long add(int place, int v) {
            return heard(x.add(place, v), "add", place, v);
        }

        long decode() {
            return heard(x.decode(), "decode");
        }

        long decoded(int i, int what) {
            return heard(x.decoded(i, what), "decoded", i, what);
        }

        long bucket(int i, int b, int what) {
            return heard(x.bucket(i, b, what), "bucket", i, b, what);
        }

        long count(int what) {
            return heard(x.count(what), "count", what);
        }
    }

    private interface Call {
        long on(Watched w);
    }

    /** What a refused call is tried on: something stands in every part of the object. */
    private enum Start {
        NEW, SMALL, WIDE, LONG;

        Watched make() {
            Watched w = new Watched();
            if (this == SMALL) {
                fill(w, 7, 2, 3, 2, 3);
            } else if (this == WIDE) {
                fill(w, 97, 6, 12, 1, 2);
            } else if (this == LONG) {
                fill(w, 2, 1, 1, 4, 32);
            }
            return w;
        }

        private static void fill(Watched w, int p, int m, int n, int d, int b) {
            w.begin(p, m, n);
            w.powers(1);
            w.set(m - 1, n - 1, 1);
            for (int which = 0; which < 6; which++) {
                w.put(which, n - 1, which + 1);
                w.put(which, 0, which + 3);
                w.sum(which, m - 1, which + 5);
                w.sum(which, 0, which + 1);
            }
            w.sketch(d, b);
            w.add(1, 1000);
            w.add(999999, -7);
            w.decode();
            // so that what was decoded is not what decode() would tell now
            w.add(5, 12);
        }
    }

    /** All that can be seen of an object, then what further calls make of it. */
    private static long[] face(Watched w) {
        long[] seen = new long[700];
        int at = 0;
        for (int what = 0; what < 6; what++) {
            seen[at++] = w.count(what);
        }
        int m = (int) seen[1];
        int n = (int) seen[2];
        int d = (int) seen[3];
        int b = (int) seen[4];
        for (int i = 0; i < m; i++) {
            for (int j = 0; j < n; j++) {
                seen[at++] = w.at(i, j);
            }
        }
        for (int which = 0; which < 6; which++) {
            for (int j = -1; j < n; j++) {
                seen[at++] = w.row(which, j);
            }
            for (int i = -1; i < m; i++) {
                seen[at++] = w.told(which, i);
            }
        }
        for (int t = 0; t < 3 * d * b; t++) {
            seen[at++] = w.bucket(t / 3 / b, t / 3 % b, t % 3);
        }
        for (int t = 0; t < 6; t++) {
            seen[at++] = w.decoded(t / 2, t % 2);
        }
        for (int what = 0; what < 4; what++) {
            seen[at++] = w.judge(what);
        }
        seen[at++] = w.find(0, 1, 2);
        seen[at++] = w.add(0, 1);
        seen[at++] = w.decode();
        return seen;
    }

    private static void refused(Start start, long want, Call call) {
        Watched w = start.make();
        due(call.on(w), want);
        String refusedCall = lastCall;
        boolean same = Arrays.equals(face(w), face(start.make()));
        lastCall = "whether all stays after " + refusedCall + " on " + start;
        due(same ? 1 : 0, 1);
    }

    private static void table(Watched w, int p, int[]... cells) {
        w.begin(p, cells.length, cells[0].length);
        for (int i = 0; i < cells.length; i++) {
            for (int j = 0; j < cells[i].length; j++) {
                w.set(i, j, cells[i][j]);
            }
        }
    }

    private static void units(Watched w, int p, int m, int n) {
        w.begin(p, m, n);
        for (int i = 0; i < Math.min(m, n); i++) {
            w.set(i, i, 1);
        }
    }

    private static void sums(Watched w, int which, int... places) {
        for (int i = 0; i < places.length; i++) {
            w.sum(which, i, places[i]);
        }
    }

    private static void rowIs(Watched w, int which, int... places) {
        for (int j = 0; j < places.length; j++) {
            due(w.row(which, j), places[j]);
        }
    }

    private static void sumsAre(Watched w, int which, int... places) {
        for (int i = 0; i < places.length; i++) {
            due(w.told(which, i), places[i]);
        }
    }

    // ---- 1: the prime, remainders, a new object (promises 1 and 2)

    private static void terms() {
        primesAreTaken();
        othersAreRefused();
        elevenAtFirst();
        remaindersByTheLeastPrime();
        remaindersByTheGreatestPrime();
        noRemaindersInSketches();
        newObject();
        fiveHundredAndTwelveCalls();
    }

    private static void primesAreTaken() {
        says("a prime p (2 to 97)");
        Watched w = new Watched();
        for (int p : PRIMES) {
            due(w.begin(p, 1, 1), 0);
            due(w.count(0), p);
            due(w.set(0, 0, p - 1), 0);
            due(w.set(0, 0, p), p - 1);
            due(w.at(0, 0), 0);
        }
    }

    private static void othersAreRefused() {
        says("a prime p (2 to 97); begin: BAD");
        for (int p = 0; p <= 100; p++) {
            int other = p;
            if (Arrays.binarySearch(PRIMES, p) < 0) {
                refused(Start.SMALL, BAD, w -> w.begin(other, 2, 3));
            }
        }
        for (int other : new int[] {-1, -2, -3, -11, -97, 101, 103, 107, 997, LEAST, LEAST + 1, GREATEST}) {
            refused(Start.SMALL, BAD, w -> w.begin(other, 2, 3));
            refused(Start.NEW, BAD, w -> w.begin(other, 1, 1));
        }
    }

    private static void elevenAtFirst() {
        says("11 at first");
        Watched w = new Watched();
        due(w.count(0), 11);
        due(w.set(0, 0, 10), 0);
        due(w.set(0, 0, 11), 10);
        due(w.set(0, 0, 12), 0);
        due(w.set(0, 0, -1), 1);
        due(w.set(0, 0, -11), 10);
        due(w.at(0, 0), 0);
        due(w.powers(10), 0);
        due(w.at(0, 0), 10);
        refused(Start.NEW, BAD, x -> x.powers(11));
    }

    private static void remaindersByTheLeastPrime() {
        says("All numbers are remainders by a prime p: 2");
        Watched w = new Watched();
        w.begin(2, 1, 1);
        int[][] cases = {{0, 0}, {1, 1}, {2, 0}, {3, 1}, {-1, 1}, {-2, 0}, {-3, 1}, {LEAST, 0}, {LEAST + 1, 1},
            {GREATEST, 1}, {GREATEST - 1, 0}};
        remainders(w, cases);
    }

    private static void remaindersByTheGreatestPrime() {
        says("All numbers are remainders by a prime p: 97");
        Watched w = new Watched();
        w.begin(97, 1, 1);
        // two to the power 31 is 66 by 97
        int[][] cases = {{0, 0}, {1, 1}, {96, 96}, {97, 0}, {98, 1}, {-1, 96}, {-96, 1}, {-97, 0}, {-98, 96},
            {GREATEST, 65}, {LEAST, 31}};
        remainders(w, cases);
    }

    private static void remainders(Watched w, int[][] cases) {
        for (int[] c : cases) {
            w.set(0, 0, c[0]);
            due(w.at(0, 0), c[1]);
            due(w.put(5, 0, c[0]), c[1] == 0 ? 0 : 1);
            due(w.row(5, 0), c[1]);
            due(w.sum(5, 0, c[0]), c[1] == 0 ? 0 : 1);
            due(w.told(5, 0), c[1]);
        }
    }

    private static void noRemaindersInSketches() {
        says("remainders by a prime p, but in 4");
        Watched w = new Watched();
        w.begin(2, 1, 1);
        w.add(0, 1000);
        due(w.bucket(0, 0, 0), 1000);
        w.add(1, -999);
        due(w.bucket(0, 1, 0), -999);
        due(w.decode(), 10002);
        due(w.decoded(0, 1), 1000);
        due(w.decoded(1, 1), -999);
    }

    private static void newObject() {
        says("p 11, a TABLE of one place; a SKETCH of one line, two buckets");
        Watched w = new Watched();
        int[] counts = {11, 1, 1, 1, 2, 0};
        for (int what = 0; what < counts.length; what++) {
            due(w.count(what), counts[what]);
        }
        due(w.at(0, 0), 0);
        for (int which = 0; which < 6; which++) {
            due(w.row(which, 0), 0);
            due(w.row(which, -1), 0);
            due(w.told(which, 0), 0);
            due(w.told(which, -1), 0);
        }
        for (int t = 0; t < 6; t++) {
            due(w.bucket(0, t / 3, t % 3), 0);
        }
        due(w.decoded(0, 0), DECODED_NONE);
        due(w.decode(), 10000);
        due(w.find(0, 0, 0), 100);
        due(w.miss(0, 0, 0, 0), 0);
        due(w.greedy(0, 0, 0), 100);
        refused(Start.NEW, BAD, x -> x.at(0, 1));
        refused(Start.NEW, BAD, x -> x.at(1, 0));
        refused(Start.NEW, BAD, x -> x.put(0, 1, 1));
        refused(Start.NEW, BAD, x -> x.sum(0, 1, 1));
        refused(Start.NEW, BUCKET_BAD, x -> x.bucket(1, 0, 0));
        refused(Start.NEW, BUCKET_BAD, x -> x.bucket(0, 2, 0));
    }

    private static void fiveHundredAndTwelveCalls() {
        says("An object is used for at most 512 calls");
        Watched w = new Watched();
        for (int i = 1; i <= 511; i++) {
            due(w.add(999999, 1000), i);
        }
        due(w.bucket(0, 0, 1), 511000L * 999999L);
    }

    // ---- the table (promises 2 to 5)

    private static void tables() {
        shapesAreTaken();
        shapesAreRefused();
        allIsNoughtThen();
        sketchStaysAtBegin();
        setAndAtBounds();
        setTellsWhatWas();
        powersBounds();
        powersWrap();
    }

    private static void shapesAreTaken() {
        says("A TABLE has m rows (1 to 6), n columns (1 to 12)");
        for (int m = 1; m <= 6; m++) {
            for (int n = 1; n <= 12; n++) {
                Watched w = new Watched();
                due(w.begin(13, m, n), 0);
                due(w.count(1), m);
                due(w.count(2), n);
                due(w.set(m - 1, n - 1, 9), 0);
                due(w.at(m - 1, n - 1), 9);
                due(w.at(m, n - 1), BAD);
                due(w.at(m - 1, n), BAD);
                due(w.put(0, n - 1, 4), 1);
                due(w.put(0, n, 4), BAD);
                due(w.sum(0, m - 1, 4), 1);
                due(w.sum(0, m, 4), BAD);
            }
        }
    }

    private static void shapesAreRefused() {
        says("begin: m rows (1 to 6), n columns (1 to 12): BAD");
        for (int other : new int[] {0, 7, -1, LEAST, GREATEST}) {
            refused(Start.SMALL, BAD, w -> w.begin(5, other, 4));
            refused(Start.WIDE, BAD, w -> w.begin(5, other, 12));
            refused(Start.NEW, BAD, w -> w.begin(5, other, 1));
        }
        for (int other : new int[] {0, 13, -1, LEAST, GREATEST}) {
            refused(Start.SMALL, BAD, w -> w.begin(5, 4, other));
            refused(Start.WIDE, BAD, w -> w.begin(5, 6, other));
            refused(Start.NEW, BAD, w -> w.begin(5, 1, other));
        }
        refused(Start.SMALL, BAD, w -> w.begin(4, 0, 13));
    }

    private static void allIsNoughtThen() {
        says("begin: TABLE, ROWS, SUMS are 0 then");
        Watched w = Start.WIDE.make();
        due(w.begin(97, 6, 12), 0);
        for (int i = 0; i < 6; i++) {
            due(w.row(i, -1), 0);
            due(w.told(i, -1), 0);
            for (int j = 0; j < 12; j++) {
                due(w.at(i, j), 0);
                due(w.row(i, j), 0);
            }
        }
        // nothing outlasts a table that is smaller for a while
        w = Start.WIDE.make();
        w.begin(97, 1, 1);
        due(w.row(5, -1), 0);
        due(w.told(5, -1), 0);
        w.begin(97, 6, 12);
        due(w.row(5, -1), 0);
        due(w.told(5, -1), 0);
        due(w.at(5, 11), 0);
        due(w.at(0, 11), 0);
        due(w.judge(0), 0);
    }

    private static void sketchStaysAtBegin() {
        says("begin: TABLE, ROWS, SUMS are 0 then (no other thing is)");
        Watched w = Start.LONG.make();
        w.begin(3, 2, 2);
        due(w.count(3), 4);
        due(w.count(4), 32);
        due(w.count(5), 3);
        due(w.decoded(1, 0) + w.decoded(0, 0), 1000000);
        due(w.bucket(0, 3, 0), 1000);
        due(w.decode(), 10003);
    }

    private static void setAndAtBounds() {
        says("set, at: BAD: i, j");
        for (int i : new int[] {-1, 6, LEAST, GREATEST}) {
            refused(Start.WIDE, BAD, w -> w.set(i, 0, 1));
            refused(Start.WIDE, BAD, w -> w.at(i, 0));
        }
        for (int j : new int[] {-1, 12, LEAST, GREATEST}) {
            refused(Start.WIDE, BAD, w -> w.set(0, j, 1));
            refused(Start.WIDE, BAD, w -> w.at(0, j));
        }
        for (int[] place : new int[][] {{2, 0}, {0, 3}, {2, 3}, {-1, 0}, {0, -1}, {1, -3}, {-1, 3}, {5, 11}}) {
            refused(Start.SMALL, BAD, w -> w.set(place[0], place[1], 1));
            refused(Start.SMALL, BAD, w -> w.at(place[0], place[1]));
        }
    }

    private static void setTellsWhatWas() {
        says("set: Place i, j of the TABLE becomes v by p: what it was");
        Watched w = new Watched();
        w.begin(97, 6, 12);
        for (int[] corner : new int[][] {{0, 0}, {0, 11}, {5, 0}, {5, 11}}) {
            due(w.set(corner[0], corner[1], 96), 0);
            due(w.set(corner[0], corner[1], 96), 96);
            due(w.set(corner[0], corner[1], -1), 96);
            due(w.set(corner[0], corner[1], 97), 96);
            due(w.set(corner[0], corner[1], 5), 0);
            due(w.at(corner[0], corner[1]), 5);
        }
        due(w.at(0, 1), 0);
        due(w.at(5, 10), 0);
        due(w.at(1, 0), 0);
    }

    private static void powersBounds() {
        says("powers: BAD: a. 0 to p - 1");
        Watched w = new Watched();
        w.begin(97, 6, 12);
        due(w.powers(96), 0);
        for (int j = 0; j < 12; j++) {
            due(w.at(0, j), 96);
            due(w.at(1, j), 97 - (j + 1));
        }
        due(w.powers(0), 0);
        for (int i = 0; i < 6; i++) {
            due(w.at(i, 11), 0);
        }
        w.begin(2, 6, 12);
        due(w.powers(1), 0);
        due(w.powers(0), 0);
        for (int a : new int[] {-1, 97, 98, LEAST, GREATEST}) {
            refused(Start.WIDE, BAD, x -> x.powers(a));
        }
        for (int a : new int[] {-1, 7, 8, 96}) {
            refused(Start.SMALL, BAD, x -> x.powers(a));
        }
        for (int a : new int[] {-1, 2, 3}) {
            refused(Start.LONG, BAD, x -> x.powers(a));
        }
    }

    private static void powersWrap() {
        says("powers: place j is a times (j + 1) to the power i by p");
        Watched w = new Watched();
        w.begin(11, 6, 12);
        w.powers(3);
        // place 10: 11 is 0 by 11, and 0 to the power 0 is 1; place 11: 12 is 1
        for (int i = 0; i < 6; i++) {
            due(w.at(i, 0), 3);
            due(w.at(i, 9), i % 2 == 0 ? 3 : 8);
            due(w.at(i, 10), i == 0 ? 3 : 0);
            due(w.at(i, 11), 3);
        }
        int[] twos = {3, 6, 1, 2, 4, 8};
        for (int i = 0; i < 6; i++) {
            due(w.at(i, 1), twos[i]);
        }
        w.begin(97, 6, 12);
        w.powers(1);
        // 12 to the power 5 is 248832
        due(w.at(5, 11), 248832 % 97);
        w.begin(2, 6, 12);
        w.powers(1);
        for (int i = 1; i < 6; i++) {
            due(w.at(i, 10), 1);
            due(w.at(i, 11), 0);
        }
    }

    // ---- rows and sums (promises 7 to 11)

    private static void keptRowsAndSums() {
        sixRows();
        sixSums();
        weightOfRows();
        weightOfSums();
        tellBounds();
        tellAtTheGreatest();
        tellChangesOnlySums();
    }

    private static void sixRows() {
        says("ROWS 0 to 5 have n places (0 at first); j = -1: its WEIGHT. BAD");
        Watched w = new Watched();
        w.begin(97, 1, 12);
        for (int which = 0; which < 6; which++) {
            due(w.row(which, 11), 0);
            due(w.put(which, 11, which + 1), 1);
            due(w.put(which, 0, which + 7), 2);
            due(w.row(which, -1), 2);
        }
        for (int which = 0; which < 6; which++) {
            rowIs(w, which, which + 7, 0, 0, 0, 0, 0, 0, 0, 0, 0, 0, which + 1);
        }
        for (int which : new int[] {-1, 6, LEAST, GREATEST}) {
            refused(Start.WIDE, BAD, x -> x.put(which, 0, 50));
            refused(Start.WIDE, BAD, x -> x.row(which, 0));
            refused(Start.WIDE, BAD, x -> x.row(which, -1));
        }
        for (int j : new int[] {-1, 12, LEAST, GREATEST}) {
            refused(Start.WIDE, BAD, x -> x.put(0, j, 50));
        }
        for (int j : new int[] {-2, 12, LEAST, GREATEST}) {
            refused(Start.WIDE, BAD, x -> x.row(0, j));
        }
        for (int j : new int[] {-1, 3, 11}) {
            refused(Start.SMALL, BAD, x -> x.put(5, j, 5));
        }
        for (int j : new int[] {-2, 3, 11}) {
            refused(Start.SMALL, BAD, x -> x.row(5, j));
        }
    }

    private static void sixSums() {
        says("SUMS 0 to 5 have m places (0 at first); i = -1: their WEIGHT. BAD");
        Watched w = new Watched();
        w.begin(97, 6, 1);
        for (int which = 0; which < 6; which++) {
            due(w.told(which, 5), 0);
            due(w.sum(which, 5, which + 1), 1);
            due(w.sum(which, 0, which + 7), 2);
            due(w.told(which, -1), 2);
        }
        for (int which = 0; which < 6; which++) {
            sumsAre(w, which, which + 7, 0, 0, 0, 0, which + 1);
        }
        for (int which : new int[] {-1, 6, LEAST, GREATEST}) {
            refused(Start.WIDE, BAD, x -> x.sum(which, 0, 50));
            refused(Start.WIDE, BAD, x -> x.told(which, 0));
            refused(Start.WIDE, BAD, x -> x.told(which, -1));
        }
        for (int i : new int[] {-1, 6, LEAST, GREATEST}) {
            refused(Start.WIDE, BAD, x -> x.sum(0, i, 50));
        }
        for (int i : new int[] {-2, 6, LEAST, GREATEST}) {
            refused(Start.WIDE, BAD, x -> x.told(0, i));
        }
        for (int i : new int[] {-1, 2, 5}) {
            refused(Start.SMALL, BAD, x -> x.sum(5, i, 5));
        }
        for (int i : new int[] {-2, 2, 5}) {
            refused(Start.SMALL, BAD, x -> x.told(5, i));
        }
    }

    private static void weightOfRows() {
        says("WEIGHT is how many places are not 0: of a ROW, 0 to n");
        Watched w = new Watched();
        w.begin(97, 1, 12);
        for (int j = 0; j < 12; j++) {
            due(w.put(3, j, 96), j + 1);
        }
        due(w.row(3, -1), 12);
        due(w.put(3, 11, 1), 12);
        for (int j = 0; j < 12; j++) {
            due(w.put(3, j, j % 2 == 0 ? 0 : -97), 11 - j);
        }
        due(w.row(3, -1), 0);
    }

    private static void weightOfSums() {
        says("WEIGHT is how many places are not 0: of SUMS, 0 to m");
        Watched w = new Watched();
        w.begin(97, 6, 1);
        for (int i = 0; i < 6; i++) {
            due(w.sum(3, i, 96), i + 1);
        }
        due(w.told(3, -1), 6);
        due(w.sum(3, 5, 1), 6);
        for (int i = 0; i < 6; i++) {
            due(w.sum(3, i, i % 2 == 0 ? 0 : 97), 5 - i);
        }
        due(w.told(3, -1), 0);
    }

    private static void tellBounds() {
        says("tell: BAD");
        Watched w = new Watched();
        units(w, 97, 6, 12);
        for (int which = 0; which < 6; which++) {
            w.put(which, which, which + 1);
        }
        for (int which = 0; which < 6; which++) {
            due(w.tell(5 - which, which), 1);
            due(w.told(5 - which, which), which + 1);
        }
        for (int other : new int[] {-1, 6, LEAST, GREATEST}) {
            refused(Start.WIDE, BAD, x -> x.tell(other, 0));
            refused(Start.WIDE, BAD, x -> x.tell(0, other));
            refused(Start.SMALL, BAD, x -> x.tell(other, 5));
            refused(Start.SMALL, BAD, x -> x.tell(5, other));
        }
    }

    private static void tellAtTheGreatest() {
        says("A ROW TELLS SUMS: the sum over j of TABLE i, j times place j");
        Watched w = new Watched();
        w.begin(97, 6, 12);
        for (int i = 0; i < 6; i++) {
            for (int j = 0; j < 12; j++) {
                w.set(i, j, 96);
            }
        }
        for (int j = 0; j < 12; j++) {
            w.put(0, j, 96);
        }
        due(w.tell(0, 0), 6);
        sumsAre(w, 0, 12, 12, 12, 12, 12, 12);
        due(w.tell(0, 1), 0);
        sumsAre(w, 0, 0, 0, 0, 0, 0, 0);
        w.begin(2, 1, 12);
        w.powers(1);
        for (int j = 0; j < 12; j++) {
            w.put(0, j, 1);
            due(w.tell(0, 0), (j + 1) % 2);
        }
        Watched first = new Watched();
        first.set(0, 0, 10);
        first.put(0, 0, 10);
        due(first.tell(0, 0), 1);
        due(first.told(0, 0), 1);
    }

    private static void tellChangesOnlySums() {
        says("tell: SUMS become what a ROW TELLS");
        Watched w = new Watched();
        table(w, 7, new int[] {1, 2, 3}, new int[] {4, 5, 6});
        w.put(4, 0, 2);
        w.put(4, 2, 4);
        sums(w, 4, 5, 6);
        sums(w, 3, 3, 3);
        due(w.tell(4, 4), 1);
        sumsAre(w, 4, 0, 4);
        sumsAre(w, 3, 3, 3);
        rowIs(w, 4, 2, 0, 4);
    }

    // ---- judge (promise 6)

    private static void judged() {
        judgeBounds();
        rankBounds();
        sparkWhereNoneAreBound();
        sparkOfOneColumn();
        sparkAnywhere();
        sparkOfPowers();
        sureForK();
        likeColumns();
        likeWithoutTwo();
        judgingChangesNothing();
    }

    private static void judgeBounds() {
        says("judge: BAD");
        Watched w = Start.SMALL.make();
        for (int what = 0; what < 4; what++) {
            due(w.judge(what) >= 0 ? 1 : 0, 1);
        }
        for (int what : new int[] {-1, 4, 5, LEAST, GREATEST}) {
            refused(Start.SMALL, BAD, x -> x.judge(what));
            refused(Start.NEW, BAD, x -> x.judge(what));
        }
    }

    private static void rankBounds() {
        says("RANK is the most columns that are not BOUND");
        for (int m = 1; m <= 6; m++) {
            for (int n = 1; n <= 12; n++) {
                Watched w = new Watched();
                w.begin(2, m, n);
                due(w.judge(0), 0);
                w.set(m - 1, n - 1, 1);
                due(w.judge(0), 1);
                units(w, 97, m, n);
                due(w.judge(0), Math.min(m, n));
            }
        }
        Watched w = new Watched();
        // bound by 2 though not by another prime
        table(w, 2, new int[] {1, 1, 0}, new int[] {0, 1, 1}, new int[] {1, 0, 1});
        due(w.judge(0), 2);
        table(w, 3, new int[] {1, 1, 0}, new int[] {0, 1, 1}, new int[] {1, 0, 1});
        due(w.judge(0), 3);
    }

    private static void sparkWhereNoneAreBound() {
        says("SPARK: n + 1, if none are");
        for (int n = 1; n <= 6; n++) {
            for (int m = n; m <= 6; m++) {
                Watched w = new Watched();
                units(w, 2, m, n);
                due(w.judge(1), n + 1);
                w.begin(97, m, n);
                w.powers(96);
                due(w.judge(1), n + 1);
            }
        }
    }

    private static void sparkOfOneColumn() {
        says("SPARK is the least number of columns that are BOUND: one, if it is 0");
        for (int j = 0; j < 12; j++) {
            Watched w = new Watched();
            w.begin(97, 6, 12);
            w.powers(1);
            due(w.judge(1), 7);
            for (int i = 0; i < 5; i++) {
                w.set(i, j, 0);
            }
            // one place that is not 0 is enough for it not to be bound by itself
            due(w.judge(1) > 1 ? 1 : 0, 1);
            w.set(5, j, 97);
            due(w.judge(1), 1);
        }
        Watched w = new Watched();
        due(w.judge(1), 1);
        w.set(0, 0, 10);
        due(w.judge(1), 2);
    }

    private static void sparkAnywhere() {
        says("SPARK is the least number of columns that are BOUND: two, wherever they are");
        for (int one = 0; one < 12; one++) {
            for (int other = one + 1; other < 12; other++) {
                Watched w = new Watched();
                w.begin(97, 6, 12);
                w.powers(1);
                for (int i = 0; i < 6; i++) {
                    w.set(i, other, 5 * (int) w.at(i, one));
                }
                due(w.judge(1), 2);
                due(w.judge(2), 0);
                due(w.judge(3), 6);
            }
        }
    }

    private static void sparkOfPowers() {
        says("SPARK: m + 1 columns are BOUND always");
        for (int m = 1; m <= 6; m++) {
            Watched w = new Watched();
            w.begin(13, m, 12);
            w.powers(1);
            due(w.judge(1), m + 1);
            due(w.judge(0), m);
            due(w.judge(2), m / 2);
        }
        Watched w = new Watched();
        // 12 is 1 by 11: columns 0 and 11 are like
        w.begin(11, 6, 12);
        w.powers(1);
        due(w.judge(1), 2);
        w.begin(11, 6, 11);
        w.powers(1);
        due(w.judge(1), 7);
        w.powers(0);
        due(w.judge(1), 1);
        // all seven and no fewer
        units(w, 2, 6, 7);
        for (int i = 0; i < 6; i++) {
            w.set(i, 6, 1);
        }
        due(w.judge(1), 7);
        w.set(3, 6, 0);
        due(w.judge(1), 6);
    }

    /** The table of units with one column more, of so many ones, has any SPARK from 1 to 7. */
    private static void sureForK() {
        says("SURE for k: just if SPARK is above 2 k");
        int[] greatest = {0, 0, 0, 1, 1, 2, 2, 3};
        for (int spark = 1; spark <= 7; spark++) {
            Watched w = new Watched();
            units(w, 5, 6, 7);
            for (int i = 0; i < spark - 1; i++) {
                w.set(i, 6, 1);
            }
            due(w.judge(1), spark);
            due(w.judge(2), greatest[spark]);
        }
        for (int n = 1; n <= 6; n++) {
            Watched w = new Watched();
            units(w, 5, 6, n);
            due(w.judge(2), greatest[n + 1]);
        }
    }

    private static void likeColumns() {
        says("how like two columns are at most (a factor not 0 that does best; of two that are 0 all)");
        Watched w = new Watched();
        w.begin(97, 6, 12);
        due(w.judge(3), 6);
        w.begin(2, 1, 2);
        due(w.judge(3), 1);
        table(w, 2, new int[] {1, 0});
        due(w.judge(3), 0);
        table(w, 97, new int[] {1, 96});
        due(w.judge(3), 1);
        // a column of 0 is like another only where that is 0 too: the factor is not 0
        table(w, 7, new int[] {0, 1}, new int[] {0, 2}, new int[] {0, 3});
        due(w.judge(3), 0);
        table(w, 7, new int[] {0, 1}, new int[] {0, 0}, new int[] {0, 3});
        due(w.judge(3), 1);
        // factor 2 does for two places, factor 3 for three; where both are 0, any does
        table(w, 7, new int[] {1, 2}, new int[] {1, 2}, new int[] {1, 3}, new int[] {1, 3}, new int[] {1, 3},
            new int[] {0, 0});
        due(w.judge(3), 4);
        // the first and the last of twelve
        w.begin(97, 6, 12);
        w.powers(1);
        // 8 is 35 times 3 by 97, and 35 to the power 3 is 1
        due(w.judge(3), 2);
        for (int i = 0; i < 5; i++) {
            w.set(i, 11, 96);
        }
        w.set(5, 11, 50);
        due(w.judge(3), 5);
    }

    private static void likeWithoutTwo() {
        says("how like two columns are: 0 if n is 1");
        for (int m = 1; m <= 6; m++) {
            Watched w = new Watched();
            w.begin(7, m, 1);
            due(w.judge(3), 0);
            w.powers(3);
            due(w.judge(3), 0);
            w.begin(7, m, 2);
            due(w.judge(3), m);
        }
    }

    private static void judgingChangesNothing() {
        says("judge tells, and changes nothing");
        for (Start start : Start.values()) {
            Watched w = start.make();
            for (int what = 0; what < 4; what++) {
                w.judge(what);
            }
            boolean same = Arrays.equals(face(w), face(start.make()));
            lastCall = "whether all stays after judge on " + start;
            due(same ? 1 : 0, 1);
        }
    }

    // ---- find (promise 12)

    private static void found() {
        findBounds();
        findWeights();
        findNothing();
        findLeastWeight();
        findLeastSet();
        findAlone();
        findInAllRows();
    }

    private static void findBounds() {
        says("find: WEIGHT k at most (0 to 4). BAD");
        for (int other : new int[] {-1, 5, LEAST, GREATEST}) {
            refused(Start.SMALL, BAD, w -> w.find(0, 0, other));
            refused(Start.NEW, BAD, w -> w.find(0, 0, other));
        }
        for (int other : new int[] {-1, 6, LEAST, GREATEST}) {
            refused(Start.SMALL, BAD, w -> w.find(other, 0, 4));
            refused(Start.SMALL, BAD, w -> w.find(0, other, 4));
            refused(Start.WIDE, BAD, w -> w.find(other, 5, 0));
            refused(Start.WIDE, BAD, w -> w.find(5, other, 0));
        }
    }

    private static void findWeights() {
        says("find: WEIGHT k at most; NO: there is none");
        for (int weight = 0; weight <= 5; weight++) {
            Watched w = new Watched();
            units(w, 97, 6, 6);
            for (int i = 0; i < weight; i++) {
                w.sum(2, 5 - i, 96);
            }
            w.put(3, 0, 44);
            for (int k = 0; k <= 4; k++) {
                due(w.find(3, 2, k), weight <= k ? 100 + weight : NO);
                due(w.row(3, 0), weight <= k ? 0 : 44);
                due(w.row(3, -1), weight <= k ? weight : 1);
                due(w.row(3, 5), weight <= k && weight > 0 ? 96 : 0);
            }
        }
    }

    private static void findNothing() {
        says("find: NO: there is none; nothing changes then");
        refused(Start.SMALL, NO, w -> w.find(0, 1, 0));
        refused(Start.WIDE, NO, w -> w.find(5, 5, 0));
        refused(Start.WIDE, NO, w -> w.find(5, 5, 1));
        refused(Start.LONG, NO, w -> w.find(3, 0, 0));
        Watched w = new Watched();
        w.begin(5, 6, 12);
        w.sum(0, 5, 1);
        w.put(0, 11, 3);
        due(w.find(0, 0, 4), NO);
        due(w.row(0, 11), 3);
        due(w.told(0, 5), 1);
    }

    private static void findLeastWeight() {
        says("FOUND is the ROW with least WEIGHT that TELLS them");
        Watched w = new Watched();
        // 1, 1 is columns 0 and 1, and column 3 alone
        table(w, 5, new int[] {1, 0, 0, 1}, new int[] {0, 1, 0, 1});
        sums(w, 0, 4, 4);
        due(w.find(0, 0, 4), 101);
        rowIs(w, 0, 0, 0, 0, 4);
        // the row of nought, whatever the table is
        due(w.find(0, 5, 4), 100);
        rowIs(w, 0, 0, 0, 0, 0);
    }

    private static void findLeastSet() {
        says("of several the one whose set of places is least as a number (place j is bit j)");
        Watched w = new Watched();
        // 0, 1, 1 is columns 1 and 2 (6 as a number), and columns 0 and 3 (9)
        table(w, 3, new int[] {1, 0, 0, 2}, new int[] {0, 1, 0, 1}, new int[] {0, 0, 1, 1});
        sums(w, 0, 0, 1, 1);
        due(w.find(0, 0, 4), 2);
        rowIs(w, 0, 0, 1, 1, 0);
        // the columns 0 and 1, and 2 and 3, changed with one another: columns 1 and 2 again before 0 and 3
        table(w, 3, new int[] {0, 1, 2, 0}, new int[] {1, 0, 1, 0}, new int[] {0, 0, 1, 1});
        sums(w, 0, 0, 1, 1);
        due(w.find(0, 0, 4), 2);
        rowIs(w, 0, 0, 1, 1, 0);
        // twelve columns that are like: the first
        w.begin(7, 1, 12);
        w.powers(2);
        w.sum(0, 0, 1);
        due(w.find(0, 0, 1), 1);
        rowIs(w, 0, 4, 0, 0, 0, 0, 0, 0, 0, 0, 0, 0, 0);
        // the last two columns alone
        w.begin(7, 2, 12);
        w.set(0, 10, 6);
        w.set(1, 11, 6);
        sums(w, 0, 1, 2);
        due(w.find(0, 0, 2), 102);
        rowIs(w, 0, 0, 0, 0, 0, 0, 0, 0, 0, 0, 0, 6, 5);
    }

    private static void findAlone() {
        says("ALONE, if there is no other of that WEIGHT");
        Watched w = new Watched();
        // column 1 alone has that weight, though columns 0, 2 and 3 tell the same
        table(w, 3, new int[] {1, 0, 0, 2}, new int[] {0, 1, 0, 1}, new int[] {0, 0, 1, 1});
        sums(w, 0, 0, 1, 0);
        due(w.find(0, 0, 4), 101);
        rowIs(w, 0, 0, 1, 0, 0);
        // another of that weight at the end of the table
        w.begin(3, 2, 12);
        w.set(0, 0, 1);
        w.sum(0, 0, 2);
        due(w.find(0, 0, 4), 101);
        w.set(0, 11, 2);
        due(w.find(0, 0, 4), 1);
        rowIs(w, 0, 2, 0);
        w.set(1, 11, 1);
        due(w.find(0, 0, 4), 101);
        // sums of nought are told by the row of nought alone, whatever columns are 0
        due(w.find(0, 5, 0), 100);
        due(w.find(0, 5, 4), 100);
    }

    private static void findInAllRows() {
        says("A ROW becomes FOUND of SUMS");
        Watched w = new Watched();
        units(w, 7, 2, 2);
        sums(w, 5, 3, 0);
        for (int which = 0; which < 6; which++) {
            w.put(which, 1, 6);
            due(w.find(which, 5, 4), 101);
            rowIs(w, which, 3, 0);
            if (which < 5) {
                due(w.row(which + 1, -1), 0);
            }
        }
        sumsAre(w, 5, 3, 0);
    }

    // ---- miss (promise 13)

    private static void missed() {
        missBounds();
        missWeightsAndPlaces();
        missWeightComesFirst();
        missFewestPlaces();
        missOfFewerRows();
        missLeastSet();
        missLessPlaces();
        missNothing();
    }

    private static void missBounds() {
        says("miss: FOUND WITH MISSES e (0 to 3), k 0 to 3. BAD");
        for (int other : new int[] {-1, 4, LEAST, GREATEST}) {
            refused(Start.SMALL, BAD, w -> w.miss(0, 0, other, 0));
            refused(Start.SMALL, BAD, w -> w.miss(0, 0, 3, other));
            refused(Start.NEW, BAD, w -> w.miss(0, 0, other, 3));
            refused(Start.NEW, BAD, w -> w.miss(0, 0, 0, other));
        }
        for (int other : new int[] {-1, 6, LEAST, GREATEST}) {
            refused(Start.SMALL, BAD, w -> w.miss(other, 0, 3, 3));
            refused(Start.SMALL, BAD, w -> w.miss(0, other, 3, 3));
            refused(Start.WIDE, BAD, w -> w.miss(other, 5, 0, 3));
            refused(Start.WIDE, BAD, w -> w.miss(5, other, 0, 3));
        }
    }

    /** In the table of units each place of the sums is either told by its column, or missed. */
    private static void missWeightsAndPlaces() {
        says("WITH MISSES e: the ROW with least WEIGHT, k at most, whose SUMS differ in e places at most");
        for (int weight = 0; weight <= 6; weight++) {
            Watched w = new Watched();
            units(w, 97, 6, 6);
            for (int i = 0; i < weight; i++) {
                w.sum(4, i, 90 + i);
            }
            w.put(1, 5, 8);
            for (int k = 0; k <= 3; k++) {
                for (int e = 0; e <= 3; e++) {
                    int least = Math.max(0, weight - e);
                    boolean is = least <= k;
                    due(w.miss(1, 4, k, e), is ? least + 100 * (weight - least) : NO);
                    due(w.row(1, 5), is ? 0 : 8);
                    due(w.row(1, -1), is ? least : 1);
                    due(w.row(1, 0), is && least > 0 ? 90 : 0);
                    w.put(1, 0, 0);
                    w.put(1, 1, 0);
                    w.put(1, 2, 0);
                    w.put(1, 5, 8);
                }
            }
        }
    }

    private static void missWeightComesFirst() {
        says("the ROW with least WEIGHT (before fewest places that differ)");
        Watched w = new Watched();
        table(w, 7, new int[] {1}, new int[] {2}, new int[] {3});
        sums(w, 0, 2, 4, 6);
        due(w.miss(0, 0, 3, 2), 1);
        rowIs(w, 0, 2);
        due(w.miss(0, 0, 3, 3), 300);
        rowIs(w, 0, 0);
        due(w.miss(0, 0, 0, 2), NO);
    }

    private static void missFewestPlaces() {
        says("of several of that WEIGHT the one with fewest places that differ");
        Watched w = new Watched();
        // column 0 misses two places, column 1 one, column 2 two
        table(w, 7, new int[] {1, 0, 1}, new int[] {1, 1, 0}, new int[] {0, 1, 0}, new int[] {0, 1, 1});
        sums(w, 0, 5, 5, 5, 5);
        due(w.miss(0, 0, 3, 3), 101);
        rowIs(w, 0, 0, 5, 0);
        due(w.miss(0, 0, 1, 1), 101);
        due(w.miss(0, 0, 1, 0), NO);
        // a set that is less, with more places that differ, does not come first; without column 1 it does
        for (int i = 1; i < 4; i++) {
            w.set(i, 1, 0);
        }
        due(w.miss(0, 0, 1, 3), 201);
        rowIs(w, 0, 5, 0, 0);
    }

    private static void missOfFewerRows() {
        says("differ from y in e places at most, where e is m or above");
        Watched w = new Watched();
        for (int m = 1; m <= 3; m++) {
            units(w, 5, m, 3);
            for (int i = 0; i < m; i++) {
                w.sum(0, i, 4);
            }
            for (int e = m; e <= 3; e++) {
                w.put(0, 2, 1);
                due(w.miss(0, 0, 3, e), 100 * m);
                due(w.row(0, -1), 0);
                due(w.miss(0, 0, 0, e), 100 * m);
            }
            due(w.miss(0, 0, 3, m - 1), 1 + 100 * (m - 1));
        }
        due(w.miss(0, 5, 0, 3), 0);
        due(w.miss(0, 5, 0, 0), 0);
    }

    private static void missLeastSet() {
        says("WITH MISSES: then as above: the one whose set of places is least as a number");
        Watched w = new Watched();
        table(w, 7, new int[] {1, 0}, new int[] {0, 1});
        sums(w, 0, 3, 4);
        due(w.miss(0, 0, 1, 1), 101);
        rowIs(w, 0, 3, 0);
        table(w, 7, new int[] {0, 1}, new int[] {1, 0});
        sums(w, 0, 3, 4);
        due(w.miss(0, 0, 1, 1), 101);
        rowIs(w, 0, 4, 0);
        // columns 0, 1 (3 as a number), 0, 2 (5) and 1, 2 (6) miss one place each
        units(w, 7, 3, 3);
        sums(w, 0, 1, 2, 3);
        due(w.miss(0, 0, 3, 1), 102);
        rowIs(w, 0, 1, 2, 0);
        // columns 1, 2 (6) miss place 3, columns 0, 3 (9) place 0
        table(w, 7, new int[] {1, 0, 0, 0}, new int[] {0, 1, 0, 1}, new int[] {0, 0, 1, 1}, new int[] {1, 0, 0, 0},
            new int[] {1, 1, 1, 1});
        sums(w, 0, 0, 1, 1, 1, 2);
        due(w.miss(0, 0, 2, 0), NO);
        due(w.miss(0, 0, 2, 1), 102);
        rowIs(w, 0, 0, 1, 1, 0);
    }

    private static void missLessPlaces() {
        says("WITH MISSES: then the one whose places are less, place by place from 0 on");
        Watched w = new Watched();
        // 5 misses the second place, 2 the first
        table(w, 7, new int[] {1}, new int[] {1});
        sums(w, 0, 5, 2);
        due(w.miss(0, 0, 1, 1), 101);
        rowIs(w, 0, 2);
        sums(w, 0, 2, 5);
        due(w.miss(0, 0, 1, 1), 101);
        rowIs(w, 0, 2);
        sums(w, 0, 1, 96);
        // 96 by 7 is 5
        due(w.miss(0, 0, 1, 1), 101);
        rowIs(w, 0, 1);
        // 5 and 5 miss the first place, 1 and 6 the second, 6 and 1 the third
        table(w, 7, new int[] {1, 1}, new int[] {1, 2}, new int[] {2, 1});
        sums(w, 0, 0, 1, 1);
        due(w.miss(0, 0, 2, 1), 102);
        rowIs(w, 0, 1, 6);
        // 3 and 5, or 3 and 2: place 1 decides
        table(w, 7, new int[] {1, 0}, new int[] {0, 1}, new int[] {0, 1});
        sums(w, 0, 3, 5, 2);
        due(w.miss(0, 0, 2, 1), 102);
        rowIs(w, 0, 3, 2);
        sums(w, 0, 3, 2, 5);
        due(w.miss(0, 0, 2, 1), 102);
        rowIs(w, 0, 3, 2);
    }

    private static void missNothing() {
        says("miss: NO; nothing changes then");
        refused(Start.SMALL, NO, w -> w.miss(0, 0, 0, 0));
        refused(Start.SMALL, NO, w -> w.miss(5, 1, 0, 1));
        refused(Start.WIDE, NO, w -> w.miss(5, 5, 0, 0));
        refused(Start.WIDE, NO, w -> w.miss(5, 5, 0, 1));
        Watched w = new Watched();
        w.begin(5, 6, 12);
        for (int i = 0; i < 4; i++) {
            w.sum(0, i, 1);
        }
        w.put(0, 11, 3);
        due(w.miss(0, 0, 3, 3), NO);
        due(w.row(0, 11), 3);
        due(w.told(0, -1), 4);
        w.sum(0, 3, 0);
        due(w.miss(0, 0, 3, 3), 300);
        due(w.row(0, 11), 0);
        due(w.told(0, -1), 3);
    }

    // ---- greedy (promise 14)

    private static void greedySteps() {
        greedyBounds();
        greedyTurns();
        greedyOfNought();
        greedyShown();
        greedyLeastFactor();
        greedyFirstColumn();
        greedyNoColumn();
        greedyNotTwice();
        greedyTakesTheBest();
    }

    private static void greedyBounds() {
        says("greedy: k turns (0 to 8). BAD");
        for (int other : new int[] {-1, 9, LEAST, GREATEST}) {
            refused(Start.SMALL, BAD, w -> w.greedy(0, 0, other));
            refused(Start.NEW, BAD, w -> w.greedy(0, 0, other));
        }
        for (int other : new int[] {-1, 6, LEAST, GREATEST}) {
            refused(Start.SMALL, BAD, w -> w.greedy(other, 0, 8));
            refused(Start.SMALL, BAD, w -> w.greedy(0, other, 8));
            refused(Start.WIDE, BAD, w -> w.greedy(other, 5, 0));
            refused(Start.WIDE, BAD, w -> w.greedy(5, other, 0));
        }
    }

    private static void greedyTurns() {
        says("GREEDY ends, if the REST is 0, at k turns");
        for (int weight = 0; weight <= 6; weight++) {
            Watched w = new Watched();
            units(w, 97, 6, 12);
            for (int i = 0; i < weight; i++) {
                w.sum(5, i, 96 - i);
            }
            for (int k = 0; k <= 8; k++) {
                w.put(5, 11, 9);
                int turns = Math.min(k, weight);
                // columns 6 to 11 are 0, so SPARK is 1: shown only with no turn at all
                due(w.greedy(5, 5, k), weight == 0 ? 100 : weight - turns);
                due(w.row(5, -1), turns);
                due(w.row(5, 11), 0);
                due(w.row(5, 0), turns > 0 ? 96 : 0);
            }
            due(w.told(5, -1), weight);
        }
    }

    private static void greedyOfNought() {
        says("GREEDY: the REST is y, the set is empty; it ends, if the REST is 0");
        for (int k = 0; k <= 8; k++) {
            Watched w = Start.WIDE.make();
            for (int i = 0; i < 6; i++) {
                w.sum(2, i, 0);
            }
            due(w.greedy(4, 2, k), 100);
            due(w.row(4, -1), 0);
        }
    }

    private static void greedyShown() {
        says("SHOWN, if the REST is 0 and twice the WEIGHT of the ROW is below SPARK");
        for (int spark = 1; spark <= 7; spark++) {
            for (int weight = 0; weight <= 6; weight++) {
                Watched w = new Watched();
                units(w, 5, 6, 7);
                for (int i = 0; i < spark - 1; i++) {
                    w.set(i, 6, 1);
                }
                for (int i = 0; i < weight; i++) {
                    w.sum(0, 5 - i, i % 2 == 0 ? 1 : 2);
                }
                long rest = w.greedy(0, 0, 8);
                long turns = w.row(0, -1);
                lastCall = "greedy of weight " + weight + " at SPARK " + spark;
                due(rest, 2 * turns < spark ? 100 : 0);
                due(w.greedy(0, 0, (int) turns), rest);
                if (turns > 0) {
                    due(w.greedy(0, 0, (int) turns - 1) > 0 ? 1 : 0, 1);
                    due(w.greedy(0, 0, (int) turns - 1) < 100 ? 1 : 0, 1);
                }
            }
        }
        // one column: SPARK 2, and twice 1 is not below it; two: SPARK 3
        Watched w = new Watched();
        w.set(0, 0, 10);
        w.sum(0, 0, 1);
        due(w.greedy(0, 0, 8), 0);
        rowIs(w, 0, 10);
        units(w, 11, 2, 2);
        w.sum(0, 0, 1);
        due(w.greedy(0, 0, 8), 100);
    }

    private static void greedyLeastFactor() {
        says("a factor (0 to p - 1, the least that does)");
        Watched w = new Watched();
        table(w, 97, new int[] {1}, new int[] {1}, new int[] {1});
        sums(w, 0, 96, 1, 50);
        due(w.greedy(0, 0, 8), 2);
        rowIs(w, 0, 1);
        sums(w, 0, 96, 1, 96);
        due(w.greedy(0, 0, 8), 1);
        rowIs(w, 0, 96);
        sums(w, 0, 96, 95, 94);
        due(w.greedy(0, 0, 8), 2);
        rowIs(w, 0, 94);
        table(w, 2, new int[] {1}, new int[] {1});
        sums(w, 0, 1, 1);
        due(w.greedy(0, 0, 1), 0);
        rowIs(w, 0, 1);
    }

    private static void greedyFirstColumn() {
        says("that column by which the REST has least WEIGHT (of several the first)");
        Watched w = new Watched();
        w.begin(7, 1, 12);
        w.powers(2);
        w.sum(0, 0, 1);
        due(w.greedy(0, 0, 8), 0);
        rowIs(w, 0, 4, 0, 0, 0, 0, 0, 0, 0, 0, 0, 0, 0);
        // the first has the greater factor
        table(w, 7, new int[] {0, 2, 1}, new int[] {0, 1, 1});
        sums(w, 0, 3, 6);
        due(w.greedy(0, 0, 1), 1);
        rowIs(w, 0, 0, 5, 0);
    }

    private static void greedyNoColumn() {
        says("or if no column and factor makes its WEIGHT less");
        Watched w = new Watched();
        w.begin(7, 6, 12);
        for (int i = 0; i < 6; i++) {
            w.sum(0, i, 1);
        }
        w.put(0, 11, 1);
        due(w.greedy(0, 0, 8), 6);
        due(w.row(0, -1), 0);
        // taking the column off makes one place 0 and another not
        table(w, 7, new int[] {1, 0}, new int[] {1, 0}, new int[] {0, 1});
        sums(w, 0, 3, 0, 2);
        due(w.greedy(0, 0, 8), 1);
        rowIs(w, 0, 0, 2);
        sums(w, 0, 3, 0, 0);
        due(w.greedy(0, 0, 8), 1);
        rowIs(w, 0, 0, 0);
    }

    private static void greedyNotTwice() {
        says("of columns not in the set");
        Watched w = new Watched();
        table(w, 3, new int[] {0, 0, 1}, new int[] {0, 1, 0}, new int[] {1, 1, 2}, new int[] {0, 2, 0},
            new int[] {2, 0, 1});
        sums(w, 0, 2, 1, 2, 1, 2);
        // column 1 a second time would leave weight 1
        due(w.greedy(0, 0, 8), 2);
        rowIs(w, 0, 0, 2, 2);
        table(w, 3, new int[] {2, 0, 0}, new int[] {0, 1, 0}, new int[] {1, 0, 2}, new int[] {0, 0, 0},
            new int[] {2, 2, 0}, new int[] {0, 1, 2});
        sums(w, 0, 2, 2, 2, 2, 2, 2);
        due(w.greedy(0, 0, 8), 3);
        rowIs(w, 0, 1, 2, 0);
    }

    private static void greedyTakesTheBest() {
        says("that column comes to it by which the REST has least WEIGHT");
        Watched w = new Watched();
        table(w, 7, new int[] {1, 1, 0}, new int[] {0, 1, 1}, new int[] {0, 1, 1});
        sums(w, 0, 5, 5, 5);
        // column 1 is columns 0 and 2: SPARK 3
        due(w.greedy(0, 0, 1), 100);
        rowIs(w, 0, 0, 5, 0);
        sums(w, 0, 5, 4, 4);
        due(w.greedy(0, 0, 1), 1);
        rowIs(w, 0, 0, 4, 0);
        due(w.greedy(0, 0, 2), 0);
        rowIs(w, 0, 1, 4, 0);
    }

    // ---- 4: sketches (promises 15, 16, 19, 20)

    private static void sketches() {
        sketchBounds();
        sketchIsEmpty();
        placeBounds();
        numberBounds();
        whereAPlaceFalls();
        sumsBeyondInt();
        thirdSumWraps();
        bucketBounds();
        countBounds();
        fullAtAHundredThousand();
    }

    private static void sketchBounds() {
        says("A SKETCH has d lines (1 to 4) of b buckets (2 to 32); BAD");
        for (int d = 1; d <= 4; d++) {
            for (int b : new int[] {2, 3, 31, 32}) {
                Watched w = new Watched();
                due(w.sketch(d, b), 0);
                due(w.count(3), d);
                due(w.count(4), b);
                due(w.add(999999, 3), 1);
                due(w.bucket(d - 1, b - 1, 0) >= 0 ? 1 : 0, 1);
                due(w.bucket(d, 0, 0), BUCKET_BAD);
                due(w.bucket(0, b, 0), BUCKET_BAD);
                due(w.decode(), 10001);
            }
        }
        for (int d : new int[] {0, 5, -1, LEAST, GREATEST}) {
            refused(Start.SMALL, BAD, w -> w.sketch(d, 2));
            refused(Start.LONG, BAD, w -> w.sketch(d, 32));
            refused(Start.NEW, BAD, w -> w.sketch(d, 2));
        }
        for (int b : new int[] {0, 1, 33, -1, LEAST, GREATEST}) {
            refused(Start.SMALL, BAD, w -> w.sketch(1, b));
            refused(Start.LONG, BAD, w -> w.sketch(4, b));
            refused(Start.NEW, BAD, w -> w.sketch(1, b));
        }
    }

    private static void sketchIsEmpty() {
        says("sketch: empty; what was decoded goes");
        Watched w = Start.LONG.make();
        due(w.decoded(0, 0) >= 0 ? 1 : 0, 1);
        due(w.sketch(4, 32), 0);
        due(w.count(5), 0);
        due(w.decoded(0, 0), DECODED_NONE);
        due(w.decoded(0, 1), DECODED_NONE);
        for (int t = 0; t < 128; t++) {
            due(w.bucket(t / 32, t % 32, 0), 0);
            due(w.bucket(t / 32, t % 32, 2), 0);
        }
        due(w.decode(), 10000);
        due(w.at(0, 0), 1);
        due(w.row(4, 0), 1);
        due(w.told(0, 0), 1);
        due(w.add(3, 1), 1);
        // nothing outlasts a sketch that is smaller for a while
        w = Start.LONG.make();
        w.sketch(1, 2);
        due(w.decode(), 10000);
        w.sketch(4, 32);
        due(w.decode(), 10000);
        due(w.bucket(3, 5, 0), 0);
    }

    private static void placeBounds() {
        says("PLACES 0 to 999999; add: BAD");
        Watched w = new Watched();
        w.sketch(1, 32);
        due(w.add(0, 1), 1);
        due(w.add(999999, 2), 2);
        due(w.bucket(0, 0, 0), 1);
        due(w.bucket(0, 6, 0), 2);
        due(w.bucket(0, 6, 1), 1999998);
        due(w.decode(), 10002);
        for (int place : new int[] {-1, 1000000, 1000002, 1000003, LEAST, GREATEST}) {
            refused(Start.SMALL, BAD, x -> x.add(place, 1));
            refused(Start.LONG, BAD, x -> x.add(place, 0));
            refused(Start.NEW, BAD, x -> x.add(place, -1000));
        }
    }

    private static void numberBounds() {
        says("PUT adds a number (-1000 to 1000) to a PLACE; add: how many PUTS there were. BAD");
        Watched w = new Watched();
        due(w.add(4, 1000), 1);
        due(w.bucket(0, 0, 0), 1000);
        due(w.add(4, -1000), 2);
        due(w.bucket(0, 0, 0), 0);
        due(w.add(4, -1000), 3);
        due(w.bucket(0, 0, 0), -1000);
        due(w.bucket(0, 0, 1), -4000);
        // a number of 0 is a PUT as well
        due(w.add(4, 0), 4);
        due(w.bucket(0, 0, 0), -1000);
        due(w.count(5), 4);
        for (int v : new int[] {-1001, 1001, LEAST, GREATEST}) {
            refused(Start.SMALL, BAD, x -> x.add(5, v));
            refused(Start.LONG, BAD, x -> x.add(999999, v));
            refused(Start.NEW, BAD, x -> x.add(0, v));
        }
    }

    private static void whereAPlaceFalls() {
        says("A PLACE q falls in line i into bucket (q times (2 i + 3) and q by (5 i + 7), cut) modulo b");
        int[] places = {0, 1, 6, 7, 11, 12, 16, 17, 21, 22, 999998, 999999};
        int[][] falls = {
            {0, 3, 18, 22, 2, 5, 18, 21, 2, 5, 2, 6},
            {0, 5, 30, 3, 23, 29, 17, 22, 10, 15, 27, 0},
            {0, 7, 10, 17, 13, 20, 16, 24, 20, 27, 25, 0},
            {0, 9, 22, 31, 3, 12, 16, 25, 29, 7, 28, 5}};
        for (int t = 0; t < places.length; t++) {
            Watched w = new Watched();
            w.sketch(4, 32);
            w.add(places[t], t + 1);
            for (int i = 0; i < 4; i++) {
                int others = 0;
                for (int b = 0; b < 32; b++) {
                    others += b != falls[i][t] && w.bucket(i, b, 0) != 0 ? 1 : 0;
                }
                due(others, 0);
                due(w.bucket(i, falls[i][t], 0), t + 1);
            }
        }
        // modulo the least b
        Watched w = new Watched();
        w.add(6, 1);
        w.add(7, 10);
        w.add(13, 100);
        w.add(999999, 1000);
        due(w.bucket(0, 0, 0), 1111);
        w.add(1, 5);
        w.add(8, -6);
        due(w.bucket(0, 0, 0), 1111);
        due(w.bucket(0, 1, 0), -1);
    }

    private static void sumsBeyondInt() {
        says("three sums: of numbers, of numbers times PLACE (beyond an int)");
        Watched w = new Watched();
        for (int t = 1; t <= 5; t++) {
            w.add(999999, 1000);
            due(w.bucket(0, 0, 1), 999999000L * t);
        }
        for (int t = 1; t <= 10; t++) {
            w.add(999999, -1000);
        }
        due(w.bucket(0, 0, 0), -5000);
        due(w.bucket(0, 0, 1), -4999995000L);
        due(w.decode(), 10001);
        due(w.decoded(0, 0), 999999);
        due(w.decoded(0, 1), -5000);
    }

    private static void thirdSumWraps() {
        says("of numbers times PLACE times PLACE modulo 1000003 (0 or above)");
        // place, number, the third sum
        int[][] cases = {{0, 1000, 0}, {1, 1, 1}, {1, -1, 1000002}, {1000, 1, 1000000}, {1001, 1, 1998},
            {1000, -1, 3}, {1001, -1, 998005}, {999999, 1, 16}, {999999, -1, 999987}, {999999, 1000, 16000},
            {999999, -1000, 984003}, {46340, 1, 389159}, {46341, 1, 481840}, {2, 0, 0}};
        for (int[] c : cases) {
            Watched w = new Watched();
            w.sketch(1, 32);
            w.add(c[0], c[1]);
            int b = (c[0] * 3 + c[0] / 7) % 32;
            due(w.bucket(0, b, 2), c[2]);
            w.add(c[0], -c[1]);
            due(w.bucket(0, b, 2), 0);
            due(w.decode(), 10000);
        }
        // just to the modulus: -1 and 1, either first
        Watched w = new Watched();
        w.add(1, -1);
        due(w.bucket(0, 1, 2), 1000002);
        w.add(1, 1);
        due(w.bucket(0, 1, 2), 0);
        w.add(1, 1);
        due(w.bucket(0, 1, 2), 1);
        w.add(1, -1);
        due(w.bucket(0, 1, 2), 0);
    }

    private static void bucketBounds() {
        says("bucket: 0 the first sum, 1 the second, 2 the third. BAD answers -1000000000000000000");
        for (int i : new int[] {-1, 4, LEAST, GREATEST}) {
            refused(Start.LONG, BUCKET_BAD, w -> w.bucket(i, 0, 0));
        }
        for (int b : new int[] {-1, 32, LEAST, GREATEST}) {
            refused(Start.LONG, BUCKET_BAD, w -> w.bucket(0, b, 0));
        }
        for (int what : new int[] {-1, 3, LEAST, GREATEST}) {
            refused(Start.LONG, BUCKET_BAD, w -> w.bucket(0, 0, what));
            refused(Start.LONG, BUCKET_BAD, w -> w.bucket(3, 31, what));
        }
        for (int[] other : new int[][] {{2, 0}, {3, 0}, {0, 3}, {1, 31}, {-1, 5}, {1, -2}}) {
            refused(Start.SMALL, BUCKET_BAD, w -> w.bucket(other[0], other[1], 0));
        }
        Watched w = new Watched();
        w.sketch(4, 32);
        for (int q = 0; q < 64; q++) {
            w.add(q, 1);
        }
        // each line keeps every PUT once
        for (int i = 0; i < 4; i++) {
            long all = 0;
            for (int b = 0; b < 32; b++) {
                all += w.bucket(i, b, 0);
            }
            due(all, 64);
        }
    }

    private static void countBounds() {
        says("count: 0 p, 1 m, 2 n, 3 lines, 4 buckets, 5 PUTS. BAD");
        Watched w = new Watched();
        w.begin(97, 6, 12);
        w.sketch(4, 32);
        w.add(0, 0);
        int[] greatest = {97, 6, 12, 4, 32, 1};
        for (int what = 0; what < 6; what++) {
            due(w.count(what), greatest[what]);
        }
        w.begin(2, 1, 1);
        w.sketch(1, 2);
        int[] least = {2, 1, 1, 1, 2, 0};
        for (int what = 0; what < 6; what++) {
            due(w.count(what), least[what]);
        }
        for (int what : new int[] {-1, 6, LEAST, GREATEST}) {
            refused(Start.SMALL, BAD, x -> x.count(what));
            refused(Start.NEW, BAD, x -> x.count(what));
        }
    }

    /** The one number of the document that an object reaches only beyond its 512 calls. */
    private static void fullAtAHundredThousand() {
        says("add: FULL: 100000");
        FewThatMatter x = new FewThatMatter();
        lastCall = "add";
        for (int t = 1; t < 100000; t++) {
            x.add(2, 1);
        }
        due(x.count(5), 99999);
        due(x.add(2, 1), 100000);
        lastCall = "add when it is full";
        due(x.add(2, 1), FULL);
        due(x.add(2, 0), FULL);
        due(x.add(2, -1), FULL);
        due(x.count(5), 100000);
        due(x.bucket(0, 0, 0), 100000);
        due(x.bucket(0, 0, 1), 200000);
        due(x.bucket(0, 0, 2), 400000);
        lastCall = "add when it is full, of what is none that is told";
        due(x.add(-1, 1), BAD);
        due(x.add(1000000, 1), BAD);
        due(x.add(2, 1001), BAD);
        lastCall = "sketch, add after it was full";
        due(x.sketch(5, 2), BAD);
        due(x.add(2, 1), FULL);
        due(x.sketch(1, 2), 0);
        due(x.add(2, 1), 1);
    }

    // ---- decode and decoded (promises 17, 18)

    private static void tellings() {
        emptyIsWhole();
        firstSumNought();
        leastAndGreatestPlace();
        placeBelowAndAbove();
        mustDivide();
        mustFallThere();
        thirdMustFit();
        fromTheFirstBucketAgain();
        sketchStaysAtDecode();
        twoHundredAtMost();
        notWhole();
        firstHundredAreKept();
        decodedBounds();
        latestDecode();
    }

    private static void emptyIsWhole() {
        says("WHOLE, if all sums are 0 then: an empty SKETCH");
        Watched w = new Watched();
        due(w.decode(), 10000);
        due(w.decoded(0, 0), DECODED_NONE);
        w.add(3, 0);
        due(w.decode(), 10000);
        w.add(3, 1000);
        w.add(3, -1000);
        due(w.decode(), 10000);
        w.sketch(4, 32);
        due(w.decode(), 10000);
    }

    private static void firstSumNought() {
        says("SINGLE: its first sum s is not 0");
        Watched w = new Watched();
        w.add(0, 5);
        w.add(2, -5);
        due(w.bucket(0, 0, 0), 0);
        due(w.decode(), 0);
        due(w.decoded(0, 0), DECODED_NONE);
        // the second sum is 0 as well, the third alone is not: 1, -2, 1 at 0, 2, 4
        w.sketch(1, 2);
        w.add(0, 1);
        w.add(2, -2);
        w.add(4, 1);
        due(w.bucket(0, 0, 0), 0);
        due(w.bucket(0, 0, 1), 0);
        due(w.bucket(0, 0, 2), 8);
        due(w.decode(), 0);
    }

    private static void leastAndGreatestPlace() {
        says("the quotient q is 0 to 999999");
        int[] numbers = {1, -1, 1000, -1000};
        for (int s : numbers) {
            for (int q : new int[] {0, 1, 999998, 999999}) {
                for (int d = 1; d <= 4; d++) {
                    Watched w = new Watched();
                    w.sketch(d, 32);
                    w.add(q, s);
                    due(w.decode(), 10001);
                    due(w.decoded(0, 0), q);
                    due(w.decoded(0, 1), s);
                    due(w.decoded(1, 0), DECODED_NONE);
                }
            }
        }
        // what three PLACES keep in one bucket as if it were one: 3, -3, 1 beyond it
        likeOne(10001, 2, 4, 6);
        likeOne(10001, 999994, 999989, 999984);
    }

    private static void placeBelowAndAbove() {
        says("the quotient q is 0 to 999999 (-1 and 1000000 are not)");
        likeOne(0, 4, 9, 14);
        likeOne(0, 1, 3, 5);
        likeOne(0, 999998, 999996, 999994);
        likeOne(0, 999993, 999986, 999979);
    }

    private static void likeOne(int want, int first, int second, int third) {
        Watched w = new Watched();
        w.add(first, 3);
        w.add(second, -3);
        w.add(third, 1);
        due(w.decode(), want);
        due(w.decoded(0, 0), want == 0 ? DECODED_NONE : third - 3 * (third - second));
        w.add(first, -6);
        w.add(second, 6);
        w.add(third, -2);
        due(w.decode(), want);
    }

    private static void mustDivide() {
        says("s divides the second");
        Watched w = new Watched();
        // the cut quotient 3052 has the third sum, and falls into the bucket
        w.add(4276, 1);
        w.add(1829, 1);
        due(w.decode(), 0);
        w.add(1829, -1);
        due(w.decode(), 10001);
    }

    private static void mustFallThere() {
        says("and falls into that bucket");
        // the sums of 1 at 0, which falls into bucket 0, in bucket 1
        Watched w = new Watched();
        w.add(5, 3);
        w.add(10, -3);
        w.add(15, 1);
        due(w.bucket(0, 1, 0), 1);
        due(w.bucket(0, 1, 1), 0);
        due(w.bucket(0, 1, 2), 0);
        due(w.decode(), 0);
    }

    private static void thirdMustFit() {
        says("and s q q modulo 1000003 is the third (0 or above)");
        Watched w = new Watched();
        // 14 twice by the first two sums, 784 and not 392 by the third
        w.add(0, 1);
        w.add(28, 1);
        due(w.decode(), 0);
        w.sketch(1, 2);
        w.add(0, -1);
        w.add(28, -1);
        due(w.decode(), 0);
        // numbers below 0 whose third sum is above 0
        w.sketch(1, 2);
        w.add(1001, -7);
        due(w.decode(), 10001);
        due(w.decoded(0, 1), -7);
    }

    private static void fromTheFirstBucketAgain() {
        says("of buckets by lines, then numbers; then from the first bucket again");
        Watched w = new Watched();
        w.sketch(2, 3);
        // line 0: 0 and 1, then 7 and 8; line 1: 0, then 8, then 1 and 7
        w.add(8, 80);
        w.add(7, 70);
        w.add(1, 10);
        w.add(0, 5);
        due(w.decode(), 10004);
        int[] order = {0, 1, 8, 7};
        int[] numbers = {5, 10, 80, 70};
        for (int i = 0; i < 4; i++) {
            due(w.decoded(i, 0), order[i]);
            due(w.decoded(i, 1), numbers[i]);
        }
        due(w.decoded(4, 0), DECODED_NONE);
        // by numbers within a line, up to the last bucket
        w.sketch(1, 32);
        w.add(21, 1);
        w.add(31, 2);
        w.add(0, 3);
        w.add(10, 4);
        due(w.decode(), 10004);
        // 0, 31, 21, 10 fall into 0, 1, 2, 31
        int[] byNumbers = {0, 31, 21, 10};
        for (int i = 0; i < 4; i++) {
            due(w.decoded(i, 0), byNumbers[i]);
        }
    }

    private static void sketchStaysAtDecode() {
        says("decode: (The SKETCH stays.)");
        for (Start start : Start.values()) {
            Watched w = start.make();
            long first = w.decode();
            due(w.decode(), first);
            long[] before = {w.count(3), w.count(4), w.count(5), w.bucket(0, 0, 0), w.bucket(0, 1, 1)};
            Watched other = start.make();
            long[] without = {other.count(3), other.count(4), other.count(5), other.bucket(0, 0, 0),
                other.bucket(0, 1, 1)};
            due(Arrays.equals(before, without) ? 1 : 0, 1);
            due(w.add(77, 0), other.add(77, 0));
            due(w.decode(), other.decode());
        }
    }

    /** 3, -3, 1 at 9, 18, 27 have in line 0 the sums of 1 at 0; line 1 puts it back, for ever. */
    private static void twoHundredAtMost() {
        says("200 times at most");
        Watched w = new Watched();
        w.sketch(2, 2);
        w.add(9, 3);
        w.add(18, -3);
        w.add(27, 1);
        due(w.decode(), 200);
        for (int i = 0; i < 100; i++) {
            due(w.decoded(i, 0), 0);
            due(w.decoded(i, 1), i % 2 == 0 ? 1 : -1);
        }
        due(w.decoded(100, 0), DECODED_NONE);
        due(w.decoded(199, 0), DECODED_NONE);
        due(w.decoded(200, 0), DECODED_NONE);
        due(w.decode(), 200);
    }

    private static void notWhole() {
        says("WHOLE, if all sums are 0 then; else what was told may not be");
        Watched w = new Watched();
        w.add(0, 1);
        w.add(28, 1);
        w.add(1, 9);
        due(w.decode(), 1);
        due(w.decoded(0, 0), 1);
        due(w.decoded(0, 1), 9);
        due(w.decoded(1, 0), DECODED_NONE);
        w.add(28, -1);
        due(w.decode(), 10002);
        // the third sum of the last bucket alone is not 0
        w.sketch(1, 32);
        w.add(10, 1);
        w.add(10 + 7 * 32, -2);
        w.add(10 + 14 * 32, 1);
        due(w.bucket(0, 31, 0), 0);
        due(w.bucket(0, 31, 1), 0);
        due(w.bucket(0, 31, 2), 100352);
        due(w.decode(), 0);
    }

    /** PLACES that peel off one by one, as many as are asked for, by a count of what is left in each bucket. */
    private static int[] peelable(int many) {
        int[] places = new int[many];
        int have = 0;
        for (int q = 0; have < many; q++) {
            places[have] = q;
            if (peeled(Arrays.copyOf(places, have + 1)).length == have + 1) {
                have++;
            }
        }
        return places;
    }

    private static int[] peeled(int[] places) {
        boolean[] gone = new boolean[places.length];
        int[] order = new int[places.length];
        int told = 0;
        for (int t = firstAlone(places, gone); t >= 0; t = firstAlone(places, gone)) {
            gone[t] = true;
            order[told++] = places[t];
        }
        return Arrays.copyOf(order, told);
    }

    private static int firstAlone(int[] places, boolean[] gone) {
        for (int t = 0; t < 128; t++) {
            int in = 0;
            int last = -1;
            for (int s = 0; s < places.length; s++) {
                int q = places[s];
                int line = t / 32;
                if (!gone[s] && (q * (2 * line + 3) + q / (5 * line + 7)) % 32 == t % 32) {
                    in++;
                    last = s;
                }
            }
            if (in == 1) {
                return last;
            }
        }
        return -1;
    }

    private static void firstHundredAreKept() {
        says("the first 100 are kept, in the order told");
        for (int many : new int[] {99, 100, 101, 108}) {
            int[] places = peelable(many);
            int[] order = peeled(places);
            Watched w = new Watched();
            w.sketch(4, 32);
            for (int q : places) {
                w.add(q, 1);
            }
            due(w.decode(), 10000 + many);
            for (int i = 0; i < Math.min(many, 100); i++) {
                due(w.decoded(i, 0), order[i]);
                due(w.decoded(i, 1), 1);
            }
            for (int i : new int[] {100, 101, 107, 108, 127, 128, 199, 200}) {
                due(w.decoded(i, 0), DECODED_NONE);
                due(w.decoded(i, 1), DECODED_NONE);
            }
            due(w.decoded(99, 0), many == 99 ? DECODED_NONE : order[99]);
        }
    }

    private static void decodedBounds() {
        says("decoded: NONE answers -1000000004; BAD -1000000001");
        refused(Start.NEW, DECODED_NONE, w -> w.decoded(0, 0));
        refused(Start.NEW, DECODED_NONE, w -> w.decoded(0, 1));
        for (int i : new int[] {2, 3, 99, 100, GREATEST}) {
            refused(Start.LONG, DECODED_NONE, w -> w.decoded(i, 0));
            refused(Start.LONG, DECODED_NONE, w -> w.decoded(i, 1));
        }
        for (int i : new int[] {-1, -2, LEAST}) {
            refused(Start.LONG, DECODED_BAD, w -> w.decoded(i, 0));
            refused(Start.LONG, DECODED_BAD, w -> w.decoded(i, 1));
        }
        for (int what : new int[] {-1, 2, LEAST, GREATEST}) {
            refused(Start.LONG, DECODED_BAD, w -> w.decoded(0, what));
            refused(Start.LONG, DECODED_BAD, w -> w.decoded(2, what));
            refused(Start.NEW, DECODED_BAD, w -> w.decoded(0, what));
        }
    }

    private static void latestDecode() {
        says("decoded: told by the latest decode()");
        Watched w = new Watched();
        w.sketch(1, 32);
        w.add(1, 6);
        w.add(2, 7);
        due(w.decoded(0, 0), DECODED_NONE);
        due(w.decode(), 10002);
        due(w.decoded(1, 0), 2);
        w.add(2, -7);
        due(w.decoded(1, 0), 2);
        due(w.begin(3, 1, 1), 0);
        due(w.decoded(1, 1), 7);
        due(w.sketch(0, 32), BAD);
        due(w.add(-1, 0), BAD);
        due(w.decoded(1, 1), 7);
        due(w.decode(), 10001);
        due(w.decoded(0, 0), 1);
        due(w.decoded(1, 0), DECODED_NONE);
        w.add(1, -6);
        due(w.decode(), 10000);
        due(w.decoded(0, 0), DECODED_NONE);
    }

    // ---- "Of several the first; nothing changes then."

    private static void refusals() {
        badGoesBeforeNo();
        manyRefusedCalls();
        numbersOfRefusals();
    }

    private static void badGoesBeforeNo() {
        says("BAD, NO, FULL: Of several the first");
        refused(Start.SMALL, BAD, w -> w.find(6, 1, 0));
        refused(Start.SMALL, BAD, w -> w.find(0, 1, -1));
        refused(Start.SMALL, BAD, w -> w.miss(6, 1, 0, 0));
        refused(Start.SMALL, BAD, w -> w.miss(0, 1, 0, -1));
        refused(Start.SMALL, DECODED_BAD, w -> w.decoded(100, 2));
        refused(Start.SMALL, BAD, w -> w.begin(0, 0, 0));
        refused(Start.SMALL, BAD, w -> w.sketch(0, 0));
        refused(Start.SMALL, BAD, w -> w.add(-1, 1001));
        refused(Start.SMALL, BUCKET_BAD, w -> w.bucket(-1, -1, -1));
    }

    private static void manyRefusedCalls() {
        says("nothing changes then: one refused call of each after another");
        refused(Start.SMALL, 0, w -> {
            long[] refusals = {w.begin(1, 2, 3), w.set(2, 0, 1), w.powers(7), w.at(0, 3), w.judge(4), w.put(6, 0, 1),
                w.row(0, -2), w.sum(6, 0, 1), w.told(0, 2), w.tell(0, 6), w.find(0, 0, 5), w.miss(0, 0, 4, 0),
                w.greedy(0, 0, 9), w.sketch(5, 2), w.add(1000000, 0), w.count(6)};
            for (long answer : refusals) {
                due(answer, BAD);
            }
            due(w.decoded(-1, 0), DECODED_BAD);
            due(w.bucket(0, 0, 3), BUCKET_BAD);
            return 0;
        });
    }

    private static void numbersOfRefusals() {
        says("BAD = -1, NO = -2, FULL = -3, NONE = -4");
        lastCall = "constant";
        due(FewThatMatter.BAD, -1);
        due(FewThatMatter.NO, -2);
        due(FewThatMatter.FULL, -3);
        due(FewThatMatter.NONE, -4);
    }
}
