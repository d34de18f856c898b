/** Long rows with few numbers that are not nought, told by few sums; and a sketch of a very long row. */
public final class FewThatMatter {
    public static final int BAD = -1, NO = -2, FULL = -3, NONE = -4;

    private static final int MOST_PRIME = 97;
    private static final int MOST_HEIGHT = 6;
    private static final int MOST_WIDTH = 12;
    private static final int KEPT = 6;
    private static final int MOST_FOUND = 4;
    private static final int MOST_FOUND_WITH_MISSES = 3;
    private static final int MOST_MISSES = 3;
    private static final int MOST_TURNS = 8;
    private static final int HUNDRED = 100;
    private static final int WHOLE = 10000;
    private static final int DECODED_BASE = -1000000000;
    private static final long BAD_BUCKET = -1000000000000000000L;

    private final Table table;
    private final Sets sets;
    private final Misses misses;
    private final Greedy steps;
    private final Sketch sketched;
    private final int[][] keptRows;
    private final int[][] keptSums;

    public FewThatMatter() {
        table = new Table();
        sets = new Sets(table);
        misses = new Misses(table, sets);
        steps = new Greedy(table);
        sketched = new Sketch();
        keptRows = new int[KEPT][MOST_WIDTH];
        keptSums = new int[KEPT][MOST_HEIGHT];
    }

    public int begin(int p, int m, int n) {
        if (!isPrime(p) || m < 1 || m > MOST_HEIGHT || n < 1 || n > MOST_WIDTH) {
            return BAD;
        }
        table.shape(p, m, n);
        for (int which = 0; which < KEPT; which++) {
            clear(keptRows[which]);
            clear(keptSums[which]);
        }
        return 0;
    }

    public int set(int i, int j, int v) {
        if (!table.has(i, j)) {
            return BAD;
        }
        int before = table.cells[i][j];
        table.cells[i][j] = table.remainder(v);
        return before;
    }

    public int powers(int a) {
        if (a < 0 || a >= table.prime) {
            return BAD;
        }
        table.fillWithPowers(a);
        return 0;
    }

    public int at(int i, int j) {
        return table.has(i, j) ? table.cells[i][j] : BAD;
    }

    public int judge(int what) {
        switch (what) {
            case 0: return sets.rank();
            case 1: return sets.spark();
            case 2: return (sets.spark() - 1) / 2;
            case 3: return table.mostLike();
            default: return BAD;
        }
    }

    public int put(int row, int j, int v) {
        if (!isKept(row) || j < 0 || j >= table.width) {
            return BAD;
        }
        keptRows[row][j] = table.remainder(v);
        return weight(keptRows[row]);
    }

    public int row(int row, int j) {
        if (!isKept(row) || j < -1 || j >= table.width) {
            return BAD;
        }
        return j == -1 ? weight(keptRows[row]) : keptRows[row][j];
    }

    public int sum(int sums, int i, int v) {
        if (!isKept(sums) || i < 0 || i >= table.height) {
            return BAD;
        }
        keptSums[sums][i] = table.remainder(v);
        return weight(keptSums[sums]);
    }

    public int told(int sums, int i) {
        if (!isKept(sums) || i < -1 || i >= table.height) {
            return BAD;
        }
        return i == -1 ? weight(keptSums[sums]) : keptSums[sums][i];
    }

    public int tell(int sums, int row) {
        if (!isKept(sums) || !isKept(row)) {
            return BAD;
        }
        table.sumsOf(keptRows[row], keptSums[sums]);
        return weight(keptSums[sums]);
    }

    public int find(int row, int sums, int k) {
        if (!isKept(row) || !isKept(sums) || k < 0 || k > MOST_FOUND) {
            return BAD;
        }
        for (int size = 0; size <= k; size++) {
            int ways = sets.waysToTell(keptSums[sums], 0, size, 2);
            if (ways > 0) {
                copy(sets.answer, keptRows[row]);
                return ways == 1 ? size + HUNDRED : size;
            }
        }
        return NO;
    }

    public int miss(int row, int sums, int k, int e) {
        if (!isKept(row) || !isKept(sums) || k < 0 || k > MOST_FOUND_WITH_MISSES || e < 0 || e > MOST_MISSES) {
            return BAD;
        }
        for (int size = 0; size <= k; size++) {
            for (int missed = 0; missed <= e; missed++) {
                if (misses.look(keptSums[sums], size, missed)) {
                    copy(misses.answer, keptRows[row]);
                    return size + HUNDRED * missed;
                }
            }
        }
        return NO;
    }

    public int greedy(int row, int sums, int k) {
        if (!isKept(row) || !isKept(sums) || k < 0 || k > MOST_TURNS) {
            return BAD;
        }
        int restWeight = steps.walk(keptSums[sums], k, keptRows[row]);
        boolean shown = restWeight == 0 && 2 * weight(keptRows[row]) < sets.spark();
        return shown ? restWeight + HUNDRED : restWeight;
    }

    public int sketch(int d, int b) {
        if (d < 1 || d > Sketch.MOST_LINES || b < 2 || b > Sketch.MOST_BUCKETS) {
            return BAD;
        }
        sketched.shape(d, b);
        return 0;
    }

    public int add(int place, int v) {
        if (place < 0 || place > Sketch.LAST_PLACE || v < -Sketch.MOST_NUMBER || v > Sketch.MOST_NUMBER) {
            return BAD;
        }
        if (sketched.puts >= Sketch.MOST_PUTS) {
            return FULL;
        }
        sketched.putNumber(place, v);
        return sketched.puts;
    }

    public int decode() {
        boolean whole = sketched.tellAll();
        return whole ? sketched.told + WHOLE : sketched.told;
    }

    public int decoded(int i, int what) {
        if (i < 0 || what < 0 || what > 1) {
            return DECODED_BASE + BAD;
        }
        if (i >= sketched.told || i >= Sketch.MOST_KEPT) {
            return DECODED_BASE + NONE;
        }
        return what == 0 ? sketched.toldPlaces[i] : sketched.toldNumbers[i];
    }

    public long bucket(int i, int b, int what) {
        if (i < 0 || i >= sketched.lines || b < 0 || b >= sketched.buckets || what < 0 || what >= Sketch.SUMS) {
            return BAD_BUCKET;
        }
        return sketched.kept[Sketch.start(i, b) + what];
    }

    public int count(int what) {
        switch (what) {
            case 0: return table.prime;
            case 1: return table.height;
            case 2: return table.width;
            case 3: return sketched.lines;
            case 4: return sketched.buckets;
            case 5: return sketched.puts;
            default: return BAD;
        }
    }

    private static boolean isKept(int which) {
        return which >= 0 && which < KEPT;
    }

    private static boolean isPrime(int p) {
        if (p < 2 || p > MOST_PRIME) {
            return false;
        }
        for (int factor = 2; factor < p; factor++) {
            if (p % factor == 0) {
                return false;
            }
        }
        return true;
    }

    private static int weight(int[] places) {
        int heavy = 0;
        for (int i = 0; i < places.length; i++) {
            if (places[i] != 0) {
                heavy++;
            }
        }
        return heavy;
    }

    private static void clear(int[] places) {
        for (int i = 0; i < places.length; i++) {
            places[i] = 0;
        }
    }

    private static void copy(int[] from, int[] to) {
        int length = Math.min(from.length, to.length);
        for (int i = 0; i < length; i++) {
            to[i] = from[i];
        }
    }

    /** The table and its arithmetic; prime is a prime always, so no remainder by it divides by nought. */
    private static final class Table {
        private int prime;
        private int height;
        private int width;
        private final int[][] cells = new int[MOST_HEIGHT][MOST_WIDTH];
        private final int[] inverses = new int[MOST_PRIME + 1];

        Table() {
            shape(11, 1, 1);
        }

        void shape(int newPrime, int newHeight, int newWidth) {
            prime = newPrime;
            height = newHeight;
            width = newWidth;
            for (int i = 0; i < MOST_HEIGHT; i++) {
                clear(cells[i]);
            }
            // prime = (prime / a) a + prime % a, so the inverse of a follows from a lesser one's
            inverses[1] = 1;
            for (int a = 2; a < prime; a++) {
                inverses[a] = (prime - prime / a) * inverses[prime % a] % prime;
            }
        }

        boolean has(int i, int j) {
            return i >= 0 && i < height && j >= 0 && j < width;
        }

        int remainder(int v) {
            return Math.floorMod(v, prime);
        }

        /** a over b for remainders, b not 0. */
        int quotient(int a, int b) {
            return a * inverses[b] % prime;
        }

        void fillWithPowers(int a) {
            for (int j = 0; j < width; j++) {
                int power = a;
                for (int i = 0; i < height; i++) {
                    cells[i][j] = power;
                    power = power * (j + 1) % prime;
                }
            }
        }

        void sumsOf(int[] row, int[] sums) {
            for (int i = 0; i < height; i++) {
                int total = 0;
                for (int j = 0; j < width; j++) {
                    total += cells[i][j] * row[j];
                }
                sums[i] = total % prime;
            }
        }

        int mostLike() {
            int most = 0;
            for (int one = 0; one < width; one++) {
                for (int other = 0; other < one; other++) {
                    most = Math.max(most, likeness(one, other));
                }
            }
            return most;
        }

        private int likeness(int one, int other) {
            int bothNought = 0;
            int best = 0;
            for (int i = 0; i < height; i++) {
                if (cells[i][one] == 0 && cells[i][other] == 0) {
                    bothNought++;
                } else if (cells[i][one] != 0 && cells[i][other] != 0) {
                    best = Math.max(best, placesWithFactorOf(i, one, other));
                }
            }
            return bothNought + best;
        }

        /** In how many places that are not nought the columns have the factor that they have in place i. */
        private int placesWithFactorOf(int i, int one, int other) {
            int factor = quotient(cells[i][one], cells[i][other]);
            int places = 0;
            for (int k = 0; k < height; k++) {
                if (cells[k][other] != 0 && factor * cells[k][other] % prime == cells[k][one]) {
                    places++;
                }
            }
            return places;
        }
    }

    /**
     * Goes through sets of columns, from the greatest column of a set down, so that sets of one size come
     * in the order of their numbers. What is left of columns and sums, once the columns of the set so far
     * are taken out of them, is kept for each depth: a column is bound to the set just if nothing is left.
     */
    private static final class Sets {
        private static final int SUMS_SLOT = MOST_WIDTH;

        private final Table table;
        private final int[][] left = new int[MOST_HEIGHT + 1][(MOST_WIDTH + 1) * MOST_HEIGHT];
        private final int[] taken = new int[MOST_HEIGHT + 1];
        private final int[] pivots = new int[MOST_HEIGHT + 1];
        private final int[] answer = new int[MOST_WIDTH];
        private int height;
        private int size;
        private int enough;
        private int ways;
        private int firstSet;
        private int leastBound;

        Sets(Table table) {
            this.table = table;
        }

        int rank() {
            loadColumns(0);
            int depth = 0;
            for (int column = table.width - 1; column >= 0 && depth < MOST_HEIGHT; column--) {
                if (!isNought(depth, column)) {
                    takeOut(depth, column, column);
                    depth++;
                }
            }
            return depth;
        }

        int spark() {
            loadColumns(0);
            // more columns than there are rows are bound always
            leastBound = Math.min(table.width, table.height) + 1;
            seekBound(0, table.width);
            return leastBound;
        }

        private void seekBound(int depth, int below) {
            if (depth + 1 >= leastBound || depth >= MOST_HEIGHT) {
                return;
            }
            for (int column = 0; column < below; column++) {
                if (isNought(depth, column)) {
                    leastBound = depth + 1;
                    return;
                }
            }
            for (int column = 1; column < below && depth + 2 < leastBound; column++) {
                seekBoundTo(depth, column);
            }
        }

        private void seekBoundTo(int depth, int column) {
            takeOut(depth, column, column);
            seekBound(depth + 1, column);
        }

        /**
         * In how many ways (counted up to stopAt) rows of this weight tell the sums in all rows of the table
         * that are not dropped; the first one is in answer, its set in firstSet. No lesser weight may do it:
         * then a set that is bound needn't be looked at, for it could do with one column less.
         */
        int waysToTell(int[] sums, int dropped, int weight, int stopAt) {
            loadColumns(dropped);
            loadSums(sums, dropped);
            size = weight;
            enough = stopAt;
            ways = 0;
            seekTelling(0, table.width, 0);
            return ways;
        }

        private void seekTelling(int depth, int below, int set) {
            if (depth >= size) {
                if (isNought(depth, SUMS_SLOT)) {
                    noteTelling(set);
                }
                return;
            }
            if (depth >= MOST_HEIGHT) {
                return;
            }
            int stillToTake = size - depth - 1;
            for (int column = stillToTake; column < below && ways < enough; column++) {
                if (!isNought(depth, column)) {
                    seekTellingWith(depth, column, set);
                }
            }
        }

        private void seekTellingWith(int depth, int column, int set) {
            boolean isLast = depth + 1 >= size;
            takeOut(depth, column, isLast ? 0 : column);
            takeOutOf(SUMS_SLOT, depth, column);
            seekTelling(depth + 1, column, set | 1 << column);
        }

        private void noteTelling(int set) {
            ways++;
            if (ways > 1) {
                return;
            }
            firstSet = set;
            clear(answer);
            for (int depth = size - 1; depth >= 0; depth--) {
                answer[taken[depth]] = factorAt(depth);
            }
        }

        /** The factor of the column taken at this depth, those of the columns taken later being known. */
        private int factorAt(int depth) {
            int pivot = pivots[depth];
            int rest = left[depth][SUMS_SLOT * MOST_HEIGHT + pivot];
            for (int later = depth + 1; later < size; later++) {
                rest += answer[taken[later]] * (table.prime - left[depth][taken[later] * MOST_HEIGHT + pivot]);
            }
            return table.quotient(rest % table.prime, left[depth][taken[depth] * MOST_HEIGHT + pivot]);
        }

        private void loadColumns(int dropped) {
            height = 0;
            for (int i = 0; i < table.height; i++) {
                if ((dropped >> i & 1) == 0) {
                    for (int j = 0; j < table.width; j++) {
                        left[0][j * MOST_HEIGHT + height] = table.cells[i][j];
                    }
                    height++;
                }
            }
        }

        private void loadSums(int[] sums, int dropped) {
            int next = SUMS_SLOT * MOST_HEIGHT;
            for (int i = 0; i < table.height; i++) {
                if ((dropped >> i & 1) == 0) {
                    left[0][next] = sums[i];
                    next++;
                }
            }
        }

        private boolean isNought(int depth, int slot) {
            return firstPlace(depth, slot) == height;
        }

        private int firstPlace(int depth, int slot) {
            int place = 0;
            while (place < height && left[depth][slot * MOST_HEIGHT + place] == 0) {
                place++;
            }
            return place;
        }

        /** Takes a column that is not nought at this depth out of the columns under the bound. */
        private void takeOut(int depth, int column, int bound) {
            taken[depth] = column;
            pivots[depth] = firstPlace(depth, column);
            for (int slot = 0; slot < bound; slot++) {
                takeOutOf(slot, depth, column);
            }
        }

        /** Without a division: what is left is scaled alike in all columns and sums, so factors stay true. */
        private void takeOutOf(int slot, int depth, int column) {
            int[] from = left[depth];
            int[] to = left[depth + 1];
            int start = slot * MOST_HEIGHT;
            int columnStart = column * MOST_HEIGHT;
            int scale = from[columnStart + pivots[depth]];
            int factor = table.prime - from[start + pivots[depth]];
            for (int i = 0; i < height; i++) {
                to[start + i] = (from[start + i] * scale + from[columnStart + i] * factor) % table.prime;
            }
        }
    }

    /** Looks for a row whose sums differ from those told in some places, by leaving those places out. */
    private static final class Misses {
        private final Table table;
        private final Sets sets;
        private final int[] answer = new int[MOST_WIDTH];

        Misses(Table table, Sets sets) {
            this.table = table;
            this.sets = sets;
        }

        /** Neither a lesser weight nor, with this weight, fewer misses may do it. */
        boolean look(int[] sums, int weight, int missed) {
            int bestSet = -1;
            for (int dropped = 0; dropped < 1 << table.height; dropped++) {
                if (Integer.bitCount(dropped) == missed && sets.waysToTell(sums, dropped, weight, 1) > 0) {
                    boolean lessSet = bestSet < 0 || sets.firstSet < bestSet;
                    if (lessSet || sets.firstSet == bestSet && isLess(sets.answer, answer)) {
                        bestSet = sets.firstSet;
                        copy(sets.answer, answer);
                    }
                }
            }
            return bestSet >= 0;
        }

        private static boolean isLess(int[] one, int[] other) {
            for (int j = 0; j < MOST_WIDTH; j++) {
                if (one[j] != other[j]) {
                    return one[j] < other[j];
                }
            }
            return false;
        }
    }

    /** Takes column after column off the sums, each time the one that leaves the least weight. */
    private static final class Greedy {
        private final Table table;
        private final int[] rest = new int[MOST_HEIGHT];
        private int bestColumn;
        private int bestFactor;
        private int bestWeight;

        Greedy(Table table) {
            this.table = table;
        }

        /** Answers the weight of the rest; the row becomes what was taken off. */
        int walk(int[] sums, int turns, int[] row) {
            copy(sums, rest);
            clear(row);
            int set = 0;
            int restWeight = weight(rest);
            for (int turn = 0; turn < turns && restWeight > 0; turn++) {
                choose(set, restWeight);
                if (bestColumn < 0) {
                    return restWeight;
                }
                set |= 1 << bestColumn;
                row[bestColumn] = bestFactor;
                takeOff();
                restWeight = bestWeight;
            }
            return restWeight;
        }

        /** Only a factor that makes some place of the rest nought can make its weight less. */
        private void choose(int set, int restWeight) {
            bestColumn = -1;
            bestFactor = 0;
            bestWeight = restWeight;
            for (int column = 0; column < table.width; column++) {
                for (int i = 0; i < table.height && (set >> column & 1) == 0; i++) {
                    if (rest[i] != 0 && table.cells[i][column] != 0) {
                        weigh(column, table.quotient(rest[i], table.cells[i][column]));
                    }
                }
            }
        }

        private void weigh(int column, int factor) {
            int weight = 0;
            for (int i = 0; i < table.height; i++) {
                if (restWithout(i, column, factor) != 0) {
                    weight++;
                }
            }
            boolean lessFactor = column == bestColumn && factor < bestFactor;
            if (weight < bestWeight || weight == bestWeight && lessFactor) {
                bestColumn = column;
                bestFactor = factor;
                bestWeight = weight;
            }
        }

        private int restWithout(int i, int column, int factor) {
            return table.remainder(rest[i] - factor * table.cells[i][column]);
        }

        private void takeOff() {
            for (int i = 0; i < table.height; i++) {
                rest[i] = restWithout(i, bestColumn, bestFactor);
            }
        }
    }

    /** Buckets with three sums each; buckets is 2 or more always, so no remainder by it divides by nought. */
    private static final class Sketch {
        private static final int MOST_LINES = 4;
        private static final int MOST_BUCKETS = 32;
        private static final int SUMS = 3;
        private static final int LAST_PLACE = 999999;
        private static final int MOST_NUMBER = 1000;
        private static final int MOST_PUTS = 100000;
        private static final int MOST_TOLD = 200;
        private static final int MOST_KEPT = 100;
        private static final long MODULUS = 1000003L;

        private int lines;
        private int buckets;
        private int puts;
        private int told;
        private final long[] kept = new long[MOST_LINES * MOST_BUCKETS * SUMS];
        private final long[] rest = new long[MOST_LINES * MOST_BUCKETS * SUMS];
        private final int[] toldPlaces = new int[MOST_KEPT];
        private final int[] toldNumbers = new int[MOST_KEPT];

        Sketch() {
            shape(1, 2);
        }

        void shape(int newLines, int newBuckets) {
            lines = newLines;
            buckets = newBuckets;
            puts = 0;
            told = 0;
            for (int i = 0; i < kept.length; i++) {
                kept[i] = 0;
            }
        }

        static int start(int line, int bucket) {
            return (line * MOST_BUCKETS + bucket) * SUMS;
        }

        void putNumber(int place, int number) {
            join(kept, place, number);
            puts++;
        }

        /** Tells places until no bucket is single; answers whether nothing is left then. */
        boolean tellAll() {
            System.arraycopy(kept, 0, rest, 0, rest.length);
            told = 0;
            for (int turn = 0; turn < MOST_TOLD; turn++) {
                int single = firstSingle();
                if (single < 0) {
                    return nothingLeft();
                }
                tellPlace(single);
            }
            return nothingLeft();
        }

        private void tellPlace(int single) {
            long number = rest[single];
            if (number == 0) {
                return;
            }
            int place = (int) (rest[single + 1] / number);
            if (told < MOST_KEPT) {
                toldPlaces[told] = place;
                toldNumbers[told] = (int) number;
            }
            told++;
            join(rest, place, -number);
        }

        /** Where the sums of the first bucket that is single start; -1, if there is none. */
        private int firstSingle() {
            for (int line = 0; line < lines; line++) {
                for (int bucket = 0; bucket < buckets; bucket++) {
                    if (isSingle(line, bucket)) {
                        return start(line, bucket);
                    }
                }
            }
            return -1;
        }

        private boolean isSingle(int line, int bucket) {
            int start = start(line, bucket);
            long number = rest[start];
            if (number == 0 || rest[start + 1] % number != 0) {
                return false;
            }
            long place = rest[start + 1] / number;
            if (place < 0 || place > LAST_PLACE || bucketOf(line, (int) place) != bucket) {
                return false;
            }
            return squareSum(place, number) == rest[start + 2];
        }

        private int bucketOf(int line, int place) {
            return (place * (2 * line + 3) + place / (5 * line + 7)) % buckets;
        }

        private static long squareSum(long place, long number) {
            return Math.floorMod(number, MODULUS) * (place * place % MODULUS) % MODULUS;
        }

        private void join(long[] sums, int place, long number) {
            long square = squareSum(place, number);
            for (int line = 0; line < lines; line++) {
                int start = start(line, bucketOf(line, place));
                sums[start] += number;
                sums[start + 1] += number * place;
                sums[start + 2] = (sums[start + 2] + square) % MODULUS;
            }
        }

        private boolean nothingLeft() {
            for (int i = 0; i < rest.length; i++) {
                if (rest[i] != 0) {
                    return false;
                }
            }
            return true;
        }
    }
}
