/** Each promise of the document: ordinary calls, its edges, wrong numbers. */
public final class PromiseTest {
    private static int wrong = 0;

    private static void due(int promise, String call, long got, long want) {
        if (got != want) {
            wrong++;
            System.out.println("promise " + promise + ": " + call + " answered " + got + ", due is " + want);
        }
    }

    private static void table(FewThatMatter x, int p, int[][] cells) {
        due(2, "begin", x.begin(p, cells.length, cells[0].length), 0);
        for (int i = 0; i < cells.length; i++) {
            for (int j = 0; j < cells[i].length; j++) {
                due(3, "set on a new table", x.set(i, j, cells[i][j]), 0);
            }
        }
    }

    private static void sums(FewThatMatter x, int which, int... places) {
        for (int i = 0; i < places.length; i++) {
            x.sum(which, i, places[i]);
        }
    }

    private static void rowIs(int promise, FewThatMatter x, int which, int... places) {
        for (int j = 0; j < places.length; j++) {
            due(promise, "row(" + which + ", " + j + ")", x.row(which, j), places[j]);
        }
    }

    public static void main(String[] args) {
        newObject();
        begin();
        set();
        powers();
        at();
        judge();
        put();
        row();
        sum();
        told();
        tell();
        find();
        miss();
        greedy();
        sketch();
        add();
        decode();
        decoded();
        bucket();
        count();
        System.out.println(wrong == 0 ? "all promises hold" : wrong + " answers are not as due");
        if (wrong != 0) {
            System.exit(1);
        }
    }

    private static void newObject() {
        FewThatMatter x = new FewThatMatter();
        int[] counts = {11, 1, 1, 1, 2, 0};
        for (int what = 0; what < counts.length; what++) {
            due(1, "count(" + what + ")", x.count(what), counts[what]);
        }
        due(1, "at(0, 0)", x.at(0, 0), 0);
        due(1, "at(0, 1)", x.at(0, 1), FewThatMatter.BAD);
        for (int which = 0; which < 6; which++) {
            due(1, "row", x.row(which, 0), 0);
            due(1, "told", x.told(which, 0), 0);
        }
        for (int b = 0; b < 2; b++) {
            for (int what = 0; what < 3; what++) {
                due(1, "bucket", x.bucket(0, b, what), 0);
            }
        }
        due(1, "decoded(0, 0)", x.decoded(0, 0), -1000000004L);
        FewThatMatter other = new FewThatMatter();
        other.set(0, 0, 7);
        due(1, "at on the first of two objects", x.at(0, 0), 0);
    }

    private static void begin() {
        FewThatMatter x = new FewThatMatter();
        boolean[] prime = new boolean[120];
        for (int q : new int[] {2, 3, 5, 7, 11, 13, 17, 19, 23, 29, 31, 37, 41, 43, 47, 53, 59, 61, 67, 71, 73, 79,
            83, 89, 97}) {
            prime[q] = true;
        }
        for (int p = -3; p < 120; p++) {
            due(2, "begin(" + p + ", 2, 3)", x.begin(p, 2, 3), p > 0 && prime[p] ? 0 : FewThatMatter.BAD);
        }
        int[][] bad = {{5, 0, 1}, {5, 7, 1}, {5, 1, 0}, {5, 1, 13}, {5, -1, 1}, {5, 1, Integer.MIN_VALUE},
            {Integer.MAX_VALUE, 1, 1}, {Integer.MIN_VALUE, 1, 1}, {101, 1, 1}};
        x.begin(7, 2, 3);
        x.set(1, 2, 4);
        x.put(5, 2, 3);
        x.sum(5, 1, 2);
        x.add(9, 9);
        for (int[] b : bad) {
            due(2, "begin with a wrong number", x.begin(b[0], b[1], b[2]), FewThatMatter.BAD);
        }
        due(2, "count(0) after BAD", x.count(0), 7);
        due(2, "count(1) after BAD", x.count(1), 2);
        due(2, "count(2) after BAD", x.count(2), 3);
        due(2, "at(1, 2) after BAD", x.at(1, 2), 4);
        due(2, "row(5, 2) after BAD", x.row(5, 2), 3);
        due(2, "told(5, 1) after BAD", x.told(5, 1), 2);
        due(2, "begin(7, 2, 3)", x.begin(7, 2, 3), 0);
        due(2, "at(1, 2)", x.at(1, 2), 0);
        due(2, "row(5, -1)", x.row(5, -1), 0);
        due(2, "told(5, -1)", x.told(5, -1), 0);
        due(2, "count(5): the sketch stays", x.count(5), 1);
        x.begin(7, 6, 12);
        x.set(5, 11, 6);
        x.put(0, 11, 6);
        x.sum(0, 5, 6);
        x.begin(7, 1, 1);
        due(2, "row(0, -1): narrower", x.row(0, -1), 0);
        x.begin(7, 6, 12);
        due(2, "at(5, 11): wide again", x.at(5, 11), 0);
        due(2, "row(0, 11): wide again", x.row(0, 11), 0);
        due(2, "told(0, 5): wide again", x.told(0, 5), 0);
    }

    private static void set() {
        FewThatMatter x = new FewThatMatter();
        x.begin(97, 2, 3);
        due(3, "set(1, 2, 98)", x.set(1, 2, 98), 0);
        due(3, "set(1, 2, -1)", x.set(1, 2, -1), 1);
        due(3, "set(1, 2, MIN)", x.set(1, 2, Integer.MIN_VALUE), 96);
        due(3, "set(1, 2, MAX)", x.set(1, 2, Integer.MAX_VALUE),
            Math.floorMod((long) Integer.MIN_VALUE, 97L));
        due(3, "at(1, 2)", x.at(1, 2), Integer.MAX_VALUE % 97);
        due(3, "set(2, 0, 1)", x.set(2, 0, 1), FewThatMatter.BAD);
        due(3, "set(-1, 0, 1)", x.set(-1, 0, 1), FewThatMatter.BAD);
        due(3, "set(0, 3, 1)", x.set(0, 3, 1), FewThatMatter.BAD);
        due(3, "set(0, -1, 1)", x.set(0, -1, 1), FewThatMatter.BAD);
        due(3, "set(MAX, MIN, 1)", x.set(Integer.MAX_VALUE, Integer.MIN_VALUE, 1), FewThatMatter.BAD);
        due(3, "at(0, 0): other places stay", x.at(0, 0), 0);
    }

    private static void powers() {
        FewThatMatter x = new FewThatMatter();
        x.begin(7, 4, 9);
        due(4, "powers(3)", x.powers(3), 0);
        for (int i = 0; i < 4; i++) {
            for (int j = 0; j < 9; j++) {
                long place = 3;
                for (int t = 0; t < i; t++) {
                    place *= j + 1;
                }
                due(4, "at(" + i + ", " + j + ")", x.at(i, j), place % 7);
            }
        }
        due(4, "powers(7)", x.powers(7), FewThatMatter.BAD);
        due(4, "powers(-1)", x.powers(-1), FewThatMatter.BAD);
        due(4, "powers(MIN)", x.powers(Integer.MIN_VALUE), FewThatMatter.BAD);
        due(4, "at(0, 6) after BAD", x.at(0, 6), 3);
        due(4, "at(1, 6)", x.at(1, 6), 0);
        due(4, "powers(6)", x.powers(6), 0);
        due(4, "at(1, 1)", x.at(1, 1), 5);
        due(4, "powers(0)", x.powers(0), 0);
        due(4, "judge(0)", x.judge(0), 0);
    }

    private static void at() {
        FewThatMatter x = new FewThatMatter();
        x.begin(5, 6, 12);
        x.set(5, 11, 3);
        x.set(0, 11, 2);
        due(5, "at(5, 11)", x.at(5, 11), 3);
        due(5, "at(0, 11)", x.at(0, 11), 2);
        due(5, "at(5, 0)", x.at(5, 0), 0);
        due(5, "at(6, 0)", x.at(6, 0), FewThatMatter.BAD);
        due(5, "at(0, 12)", x.at(0, 12), FewThatMatter.BAD);
        due(5, "at(-1, 0)", x.at(-1, 0), FewThatMatter.BAD);
        due(5, "at(0, -1)", x.at(0, -1), FewThatMatter.BAD);
        due(5, "at(MIN, MAX)", x.at(Integer.MIN_VALUE, Integer.MAX_VALUE), FewThatMatter.BAD);
        x.begin(5, 2, 2);
        due(5, "at(2, 0) of a small table", x.at(2, 0), FewThatMatter.BAD);
        due(5, "at(0, 2) of a small table", x.at(0, 2), FewThatMatter.BAD);
    }

    private static void judged(FewThatMatter x, int rank, int spark, int sure, int like) {
        due(6, "judge(0)", x.judge(0), rank);
        due(6, "judge(1)", x.judge(1), spark);
        due(6, "judge(2)", x.judge(2), sure);
        due(6, "judge(3)", x.judge(3), like);
    }

    private static void judge() {
        FewThatMatter x = new FewThatMatter();
        judged(x, 0, 1, 0, 0);
        table(x, 5, new int[][] {{1, 0, 0}, {0, 1, 0}, {0, 0, 1}});
        judged(x, 3, 4, 1, 1);
        table(x, 5, new int[][] {{1, 0, 1}, {0, 1, 1}, {0, 0, 0}});
        judged(x, 2, 3, 1, 2);
        table(x, 5, new int[][] {{1, 2, 0}, {3, 1, 0}, {4, 3, 1}});
        judged(x, 2, 2, 0, 3);
        table(x, 5, new int[][] {{1, 0, 0}, {2, 0, 0}, {3, 0, 0}});
        judged(x, 1, 1, 0, 3);
        table(x, 5, new int[][] {{0, 0}, {0, 2}, {0, 3}});
        judged(x, 1, 1, 0, 1);
        table(x, 2, new int[][] {{1, 1, 0, 0, 0, 0, 0}, {0, 1, 1, 0, 0, 0, 0}, {0, 0, 1, 1, 0, 0, 0},
            {0, 0, 0, 1, 1, 0, 0}, {0, 0, 0, 0, 1, 1, 0}, {0, 0, 0, 0, 0, 1, 1}});
        judged(x, 6, 7, 3, 5);
        // the dual of a simplex code: any two columns differ, three of them add up to nought
        table(x, 2, new int[][] {{1, 0, 1, 0, 1, 0, 1}, {0, 1, 1, 0, 0, 1, 1}, {0, 0, 0, 1, 1, 1, 1}});
        judged(x, 3, 3, 1, 2);
        table(x, 97, new int[][] {{96}});
        judged(x, 1, 2, 0, 0);
        table(x, 7, new int[][] {{1, 3, 5, 2}});
        judged(x, 1, 2, 0, 1);
        x.begin(97, 6, 6);
        x.powers(5);
        due(6, "judge(1): none are bound", x.judge(1), 7);
        x.begin(97, 6, 5);
        x.powers(5);
        due(6, "judge(1): n + 1", x.judge(1), 6);
        due(6, "judge(2)", x.judge(2), 2);
        due(6, "judge(-1)", x.judge(-1), FewThatMatter.BAD);
        due(6, "judge(4)", x.judge(4), FewThatMatter.BAD);
        due(6, "judge(MIN)", x.judge(Integer.MIN_VALUE), FewThatMatter.BAD);
    }

    private static void put() {
        FewThatMatter x = new FewThatMatter();
        x.begin(13, 2, 12);
        due(7, "put(5, 11, -1)", x.put(5, 11, -1), 1);
        due(7, "row(5, 11)", x.row(5, 11), 12);
        due(7, "put(5, 0, 14)", x.put(5, 0, 14), 2);
        due(7, "put(5, 0, 13)", x.put(5, 0, 13), 1);
        due(7, "put(5, 0, MIN)", x.put(5, 0, Integer.MIN_VALUE), 2);
        due(7, "row(5, 0)", x.row(5, 0), Math.floorMod(Integer.MIN_VALUE, 13));
        due(7, "put(6, 0, 1)", x.put(6, 0, 1), FewThatMatter.BAD);
        due(7, "put(-1, 0, 1)", x.put(-1, 0, 1), FewThatMatter.BAD);
        due(7, "put(0, 12, 1)", x.put(0, 12, 1), FewThatMatter.BAD);
        due(7, "put(0, -1, 1)", x.put(0, -1, 1), FewThatMatter.BAD);
        due(7, "row(0, -1): nothing changed", x.row(0, -1), 0);
        x.begin(13, 2, 3);
        due(7, "put(0, 3, 1) of a narrow table", x.put(0, 3, 1), FewThatMatter.BAD);
    }

    private static void row() {
        FewThatMatter x = new FewThatMatter();
        x.begin(13, 2, 4);
        x.put(2, 1, 5);
        x.put(2, 3, 6);
        rowIs(8, x, 2, 0, 5, 0, 6);
        due(8, "row(2, -1)", x.row(2, -1), 2);
        due(8, "row(1, -1)", x.row(1, -1), 0);
        due(8, "row(2, -2)", x.row(2, -2), FewThatMatter.BAD);
        due(8, "row(2, 4)", x.row(2, 4), FewThatMatter.BAD);
        due(8, "row(-1, 0)", x.row(-1, 0), FewThatMatter.BAD);
        due(8, "row(6, -1)", x.row(6, -1), FewThatMatter.BAD);
        due(8, "row(MAX, MAX)", x.row(Integer.MAX_VALUE, Integer.MAX_VALUE), FewThatMatter.BAD);
    }

    private static void sum() {
        FewThatMatter x = new FewThatMatter();
        x.begin(13, 6, 2);
        due(9, "sum(5, 5, -1)", x.sum(5, 5, -1), 1);
        due(9, "told(5, 5)", x.told(5, 5), 12);
        due(9, "sum(5, 0, 27)", x.sum(5, 0, 27), 2);
        due(9, "told(5, 0)", x.told(5, 0), 1);
        due(9, "sum(5, 0, 26)", x.sum(5, 0, 26), 1);
        due(9, "sum(6, 0, 1)", x.sum(6, 0, 1), FewThatMatter.BAD);
        due(9, "sum(-1, 0, 1)", x.sum(-1, 0, 1), FewThatMatter.BAD);
        due(9, "sum(0, 6, 1)", x.sum(0, 6, 1), FewThatMatter.BAD);
        due(9, "sum(0, -1, 1)", x.sum(0, -1, 1), FewThatMatter.BAD);
        due(9, "told(0, -1): nothing changed", x.told(0, -1), 0);
    }

    private static void told() {
        FewThatMatter x = new FewThatMatter();
        x.begin(13, 3, 2);
        sums(x, 4, 0, 7, 20);
        due(10, "told(4, 0)", x.told(4, 0), 0);
        due(10, "told(4, 1)", x.told(4, 1), 7);
        due(10, "told(4, 2)", x.told(4, 2), 7);
        due(10, "told(4, -1)", x.told(4, -1), 2);
        due(10, "told(4, 3)", x.told(4, 3), FewThatMatter.BAD);
        due(10, "told(4, -2)", x.told(4, -2), FewThatMatter.BAD);
        due(10, "told(6, 0)", x.told(6, 0), FewThatMatter.BAD);
        due(10, "told(-1, -1)", x.told(-1, -1), FewThatMatter.BAD);
    }

    private static void tell() {
        FewThatMatter x = new FewThatMatter();
        table(x, 7, new int[][] {{1, 2, 3}, {4, 5, 6}});
        x.put(0, 0, 2);
        x.put(0, 2, 4);
        x.sum(3, 0, 5);
        due(11, "tell(3, 0)", x.tell(3, 0), 1);
        due(11, "told(3, 0)", x.told(3, 0), 0);
        due(11, "told(3, 1)", x.told(3, 1), 4);
        due(11, "tell(6, 0)", x.tell(6, 0), FewThatMatter.BAD);
        due(11, "tell(0, 6)", x.tell(0, 6), FewThatMatter.BAD);
        due(11, "tell(-1, 0)", x.tell(-1, 0), FewThatMatter.BAD);
        due(11, "tell(0, -1)", x.tell(0, -1), FewThatMatter.BAD);
        due(11, "tell(3, 1): an empty row", x.tell(3, 1), 0);
        x.begin(97, 6, 12);
        x.powers(96);
        for (int j = 0; j < 12; j++) {
            x.put(5, j, 96);
        }
        due(11, "tell(5, 5)", x.tell(5, 5), 6);
        due(11, "told(5, 1)", x.told(5, 1), 78);
    }

    private static void find() {
        FewThatMatter x = new FewThatMatter();
        table(x, 5, new int[][] {{1, 0, 1, 1}, {0, 1, 1, 2}});
        sums(x, 0, 2, 2);
        due(12, "find(0, 0, 0)", x.find(0, 0, 0), FewThatMatter.NO);
        due(12, "find(0, 0, 4)", x.find(0, 0, 4), 101);
        rowIs(12, x, 0, 0, 0, 2, 0);
        sums(x, 1, 1, 3);
        due(12, "find(1, 1, 1)", x.find(1, 1, 1), FewThatMatter.NO);
        x.put(1, 3, 4);
        due(12, "find(1, 1, 1)", x.find(1, 1, 1), FewThatMatter.NO);
        rowIs(12, x, 1, 0, 0, 0, 4);
        due(12, "find(1, 1, 2): the least set", x.find(1, 1, 2), 2);
        rowIs(12, x, 1, 1, 3, 0, 0);
        due(12, "find(2, 5, 0): sums of nought", x.find(2, 5, 0), 100);
        due(12, "find(1, 5, 3): the row is cleared", x.find(1, 5, 3), 100);
        rowIs(12, x, 1, 0, 0, 0, 0);
        // columns that are alike: the first of them, not alone
        table(x, 3, new int[][] {{0, 2, 1, 1}, {0, 1, 2, 2}});
        sums(x, 0, 1, 2);
        due(12, "find of like columns", x.find(0, 0, 4), 1);
        rowIs(12, x, 0, 0, 2, 0, 0);
        sums(x, 0, 1, 0);
        due(12, "find of sums no row tells", x.find(0, 0, 4), FewThatMatter.NO);
        rowIs(12, x, 0, 0, 2, 0, 0);
        x.begin(97, 6, 12);
        x.powers(1);
        for (int j = 8; j < 12; j++) {
            x.put(0, j, 90 - j);
        }
        x.tell(0, 0);
        due(12, "find(1, 0, 3)", x.find(1, 0, 3), FewThatMatter.NO);
        due(12, "find(1, 0, 4) of the last four", x.find(1, 0, 4) % 100, 4);
        x.tell(1, 1);
        for (int i = 0; i < 6; i++) {
            due(12, "told again", x.told(1, i), x.told(0, i));
        }
        x.begin(2, 6, 6);
        for (int i = 0; i < 6; i++) {
            x.set(i, i, 1);
        }
        sums(x, 0, 0, 1, 1, 0, 1, 1);
        due(12, "find(1, 0, 4) of ones", x.find(1, 0, 4), 104);
        rowIs(12, x, 1, 0, 1, 1, 0, 1, 1);
        int[][] bad = {{6, 0, 0}, {-1, 0, 0}, {0, 6, 0}, {0, -1, 0}, {0, 0, 5}, {0, 0, -1},
            {0, 0, Integer.MAX_VALUE}};
        for (int[] b : bad) {
            due(12, "find with a wrong number", x.find(b[0], b[1], b[2]), FewThatMatter.BAD);
        }
    }

    private static void miss() {
        FewThatMatter x = new FewThatMatter();
        x.begin(97, 6, 6);
        x.powers(1);
        x.put(0, 4, 7);
        x.tell(0, 0);
        x.sum(0, 3, x.told(0, 3) + 1);
        due(13, "miss(1, 0, 1, 1)", x.miss(1, 0, 1, 1), 101);
        rowIs(13, x, 1, 0, 0, 0, 0, 7, 0);
        x.put(1, 0, 3);
        due(13, "miss(1, 0, 1, 0)", x.miss(1, 0, 1, 0), FewThatMatter.NO);
        rowIs(13, x, 1, 3, 0, 0, 0, 7, 0);
        x.sum(0, 5, x.told(0, 5) + 1);
        due(13, "miss(1, 0, 1, 2)", x.miss(1, 0, 1, 2), 201);
        x.sum(0, 0, x.told(0, 0) + 1);
        due(13, "miss(1, 0, 1, 3)", x.miss(1, 0, 1, 3), 301);
        rowIs(13, x, 1, 0, 0, 0, 0, 7, 0);
        // one column, three places that ask for factors of their own: the least factor
        table(x, 7, new int[][] {{1}, {1}, {1}});
        sums(x, 0, 5, 3, 4);
        due(13, "miss(0, 0, 0, 3)", x.miss(0, 0, 0, 3), 300);
        due(13, "miss(0, 0, 3, 2)", x.miss(0, 0, 3, 2), 201);
        rowIs(13, x, 0, 3);
        // of one weight fewest misses, though another set is less
        table(x, 7, new int[][] {{1, 1}, {0, 1}, {0, 1}});
        sums(x, 0, 2, 2, 2);
        due(13, "miss(0, 0, 1, 2)", x.miss(0, 0, 1, 2), 1);
        rowIs(13, x, 0, 0, 2);
        // of one weight and like misses the least set
        sums(x, 0, 2, 2, 3);
        due(13, "miss(0, 0, 1, 2)", x.miss(0, 0, 1, 2), 101);
        rowIs(13, x, 0, 0, 2);
        sums(x, 0, 2, 3, 4);
        due(13, "miss(0, 0, 1, 2)", x.miss(0, 0, 1, 2), 201);
        rowIs(13, x, 0, 2, 0);
        // the least weight goes before the fewest misses
        due(13, "miss(0, 0, 3, 3)", x.miss(0, 0, 3, 3), 300);
        rowIs(13, x, 0, 0, 0);
        due(13, "miss of sums of nought", x.miss(0, 5, 3, 3), 0);
        due(13, "miss, no row", x.miss(0, 0, 3, 0), FewThatMatter.NO);
        int[][] bad = {{6, 0, 0, 0}, {-1, 0, 0, 0}, {0, 6, 0, 0}, {0, -1, 0, 0}, {0, 0, 4, 0}, {0, 0, -1, 0},
            {0, 0, 0, 4}, {0, 0, 0, -1}};
        for (int[] b : bad) {
            due(13, "miss with a wrong number", x.miss(b[0], b[1], b[2], b[3]), FewThatMatter.BAD);
        }
    }

    private static void greedy() {
        FewThatMatter x = new FewThatMatter();
        table(x, 5, new int[][] {{1, 0, 0, 0}, {0, 1, 0, 0}, {0, 0, 1, 0}, {0, 0, 0, 1}});
        sums(x, 0, 4, 0, 3, 0);
        due(14, "greedy(0, 0, 0)", x.greedy(0, 0, 0), 2);
        due(14, "greedy(0, 0, 1)", x.greedy(0, 0, 1), 1);
        rowIs(14, x, 0, 4, 0, 0, 0);
        due(14, "greedy(0, 0, 2): shown", x.greedy(0, 0, 2), 100);
        rowIs(14, x, 0, 4, 0, 3, 0);
        sums(x, 0, 4, 1, 3, 0);
        due(14, "greedy(0, 0, 8): weight 3, spark 5", x.greedy(0, 0, 8), 0);
        rowIs(14, x, 0, 4, 1, 3, 0);
        due(14, "greedy(0, 5, 0): sums of nought", x.greedy(0, 5, 0), 100);
        rowIs(14, x, 0, 0, 0, 0, 0);
        table(x, 5, new int[][] {{1, 0, 0}, {0, 1, 0}, {0, 0, 1}});
        sums(x, 0, 4, 0, 3);
        due(14, "greedy(0, 0, 8): twice the weight is spark", x.greedy(0, 0, 8), 0);
        // column 0 a second time would help here, but it is in the set
        table(x, 5, new int[][] {{3, 0}, {0, 3}, {0, 3}, {0, 4}, {4, 2}, {3, 2}});
        sums(x, 0, 3, 4, 1, 2, 3, 2);
        due(14, "greedy(0, 0, 8): a column comes once", x.greedy(0, 0, 8), 3);
        rowIs(14, x, 0, 1, 3);
        // the first of columns that do alike, the least of factors that do alike
        table(x, 7, new int[][] {{2, 1, 1}, {1, 1, 1}});
        sums(x, 0, 3, 6);
        due(14, "greedy(0, 0, 1)", x.greedy(0, 0, 1), 1);
        rowIs(14, x, 0, 5, 0, 0);
        table(x, 7, new int[][] {{0, 1, 1}, {0, 1, 1}});
        sums(x, 0, 6, 2);
        due(14, "greedy(0, 0, 8): no column makes it less", x.greedy(0, 0, 8), 1);
        rowIs(14, x, 0, 0, 2, 0);
        // a table of nought: the first turn makes nothing less
        x.begin(7, 2, 3);
        x.sum(0, 1, 4);
        x.put(0, 1, 1);
        due(14, "greedy of a table of nought", x.greedy(0, 0, 8), 1);
        rowIs(14, x, 0, 0, 0, 0);
        due(14, "told(0, 1): the sums stay", x.told(0, 1), 4);
        int[][] bad = {{6, 0, 0}, {-1, 0, 0}, {0, 6, 0}, {0, -1, 0}, {0, 0, 9}, {0, 0, -1}};
        for (int[] b : bad) {
            due(14, "greedy with a wrong number", x.greedy(b[0], b[1], b[2]), FewThatMatter.BAD);
        }
    }

    private static void sketch() {
        FewThatMatter x = new FewThatMatter();
        x.add(7, 8);
        x.decode();
        int[][] bad = {{0, 2}, {5, 2}, {1, 1}, {1, 33}, {-1, 2}, {Integer.MIN_VALUE, Integer.MAX_VALUE}};
        for (int[] b : bad) {
            due(15, "sketch with a wrong number", x.sketch(b[0], b[1]), FewThatMatter.BAD);
        }
        due(15, "count(5) after BAD", x.count(5), 1);
        due(15, "decoded(0, 0) after BAD", x.decoded(0, 0), 7);
        x.set(0, 0, 3);
        due(15, "sketch(4, 32)", x.sketch(4, 32), 0);
        due(15, "count(3)", x.count(3), 4);
        due(15, "count(4)", x.count(4), 32);
        due(15, "count(5)", x.count(5), 0);
        due(15, "decoded(0, 0): goes", x.decoded(0, 0), -1000000004L);
        due(15, "at(0, 0): the table stays", x.at(0, 0), 3);
        due(15, "sketch(1, 2)", x.sketch(1, 2), 0);
        due(15, "bucket(0, 0, 0)", x.bucket(0, 0, 0), 0);
        due(15, "bucket(0, 1, 0)", x.bucket(0, 1, 0), 0);
        x.sketch(4, 32);
        x.add(123, 4);
        x.sketch(4, 31);
        due(15, "decode(): empty", x.decode(), 10000);
    }

    private static void add() {
        FewThatMatter x = new FewThatMatter();
        due(16, "add(0, -1000)", x.add(0, -1000), 1);
        due(16, "add(999999, 1000)", x.add(999999, 1000), 2);
        due(16, "add(5, 0)", x.add(5, 0), 3);
        due(16, "add(-1, 0)", x.add(-1, 0), FewThatMatter.BAD);
        due(16, "add(1000000, 0)", x.add(1000000, 0), FewThatMatter.BAD);
        due(16, "add(0, -1001)", x.add(0, -1001), FewThatMatter.BAD);
        due(16, "add(0, 1001)", x.add(0, 1001), FewThatMatter.BAD);
        due(16, "add(0, MIN)", x.add(0, Integer.MIN_VALUE), FewThatMatter.BAD);
        due(16, "add(MAX, 0)", x.add(Integer.MAX_VALUE, 0), FewThatMatter.BAD);
        due(16, "count(5)", x.count(5), 3);
        full();
    }

    /** The document promises nothing after 512 calls, yet names this edge: it holds here all the same. */
    private static void full() {
        FewThatMatter x = new FewThatMatter();
        for (int i = 1; i <= 100000; i++) {
            due(16, "add(999999, 1000)", x.add(999999, 1000), i);
        }
        due(16, "add: full", x.add(999999, 1000), FewThatMatter.FULL);
        due(16, "add: wrong goes before full", x.add(-1, 1000), FewThatMatter.BAD);
        due(16, "count(5)", x.count(5), 100000);
        due(16, "decode()", x.decode(), 10001);
        due(16, "decoded(0, 1)", x.decoded(0, 1), 100000000);
        x.sketch(1, 2);
        due(16, "add after sketch", x.add(0, 1), 1);
    }

    private static void decode() {
        FewThatMatter x = new FewThatMatter();
        x.sketch(2, 2);
        x.add(0, 5);
        x.add(1, 6);
        // line 0 (3 q + q / 7): buckets 0, 1
        due(17, "decode()", x.decode(), 10002);
        due(17, "decode() again: the sketch stays", x.decode(), 10002);
        due(17, "bucket(0, 0, 0)", x.bucket(0, 0, 0), 5);
        x.add(1, -6);
        due(17, "decode() of what is taken back", x.decode(), 10001);
        x.sketch(1, 2);
        x.add(0, 5);
        x.add(2, -5);
        due(17, "decode(): the first sum is nought, not the others", x.decode(), 0);
        x.add(1, 9);
        due(17, "decode(): not whole", x.decode(), 1);
        due(17, "decoded(0, 0)", x.decoded(0, 0), 1);
        // 3, -3, 1 at 2, 4, 6 have the sums of 1 at 0: what is told is false, and shows so only by other lines
        x.sketch(1, 2);
        x.add(2, 3);
        x.add(4, -3);
        x.add(6, 1);
        due(17, "decode(): one false place", x.decode(), 10001);
        due(17, "decoded(0, 0)", x.decoded(0, 0), 0);
        due(17, "decoded(0, 1)", x.decoded(0, 1), 1);
        notSingle();
        manyTold();
        falseForEver();
    }

    private static void notSingle() {
        undecoded("the third sum is another's", new int[] {0, 28}, new int[] {1, 1});
        undecoded("the place falls into another bucket", new int[] {5, 10, 15}, new int[] {3, -3, 1});
        undecoded("the place is above 999999", new int[] {999991, 999977, 999963}, new int[] {3, -3, 1});
        undecoded("the place is below 0", new int[] {0, 14, 28}, new int[] {3, -3, 1});
        // the cut quotient 3052 has the third sum, and falls into the bucket
        undecoded("the first sum does not divide the second", new int[] {4276, 1829}, new int[] {1, 1});
    }

    private static void undecoded(String why, int[] places, int[] numbers) {
        FewThatMatter x = new FewThatMatter();
        for (int i = 0; i < places.length; i++) {
            x.add(places[i], numbers[i]);
        }
        due(17, "decode(): " + why, x.decode(), 0);
    }

    /** More than 100 places that peel off one by one: all are counted, the first 100 kept. */
    private static void manyTold() {
        int[] places = new int[110];
        int added = 0;
        for (int q = 0; q < 2000 && added < 110; q++) {
            places[added] = q;
            if (withOnesAt(places, added + 1).decode() == 10001 + added) {
                added++;
            }
        }
        FewThatMatter x = withOnesAt(places, added);
        due(17, "decode() of 110", x.decode(), 10110);
        due(18, "decoded(99, 1)", x.decoded(99, 1), 1);
        due(18, "decoded(100, 0): not kept", x.decoded(100, 0), -1000000004L);
        due(18, "decoded(100, 2)", x.decoded(100, 2), -1000000001L);
    }

    /** A new object each time, so that none is used beyond its 512 calls. */
    private static FewThatMatter withOnesAt(int[] places, int many) {
        FewThatMatter x = new FewThatMatter();
        x.sketch(4, 32);
        for (int t = 0; t < many; t++) {
            x.add(places[t], 1);
        }
        return x;
    }

    /** A false single that comes back through the second line again and again: it ends at 200. */
    private static void falseForEver() {
        FewThatMatter x = new FewThatMatter();
        x.sketch(2, 2);
        int base = 0;
        int step = 0;
        search:
        for (base = 0; base < 400; base++) {
            for (step = 1; step < 60; step++) {
                if (loops(base, step)) {
                    break search;
                }
            }
        }
        x.add(base + step, 3);
        x.add(base + 2 * step, -3);
        x.add(base + 3 * step, 1);
        due(17, "decode() that is false for ever", x.decode(), 200);
        due(18, "decoded(99, 0)", x.decoded(99, 0) >= 0 ? 1 : 0, 1);
        due(18, "decoded(100, 0)", x.decoded(100, 0), -1000000004L);
        due(18, "decoded(199, 1)", x.decoded(199, 1), -1000000004L);
    }

    /** All four in one bucket of line 0; in line 1 base and one other alone by themselves. */
    private static boolean loops(int base, int step) {
        for (int t = 1; t < 4; t++) {
            if (bucketOf(base + t * step, 0) != bucketOf(base, 0)) {
                return false;
            }
        }
        int alone = 0;
        for (int t = 1; t < 4; t++) {
            if (bucketOf(base + t * step, 1) == bucketOf(base, 1)) {
                alone++;
            }
        }
        return alone == 0;
    }

    private static int bucketOf(int q, int line) {
        return (q * (2 * line + 3) + q / (5 * line + 7)) % 2;
    }

    private static void decoded() {
        FewThatMatter x = new FewThatMatter();
        due(18, "decoded(0, 0) before decode()", x.decoded(0, 0), -1000000004L);
        x.sketch(1, 32);
        x.add(2, -4);
        x.add(1, 9);
        due(18, "decode()", x.decode(), 10002);
        // 3 q modulo 32: 3 for 1, 6 for 2
        due(18, "decoded(0, 0)", x.decoded(0, 0), 1);
        due(18, "decoded(0, 1)", x.decoded(0, 1), 9);
        due(18, "decoded(1, 0)", x.decoded(1, 0), 2);
        due(18, "decoded(1, 1)", x.decoded(1, 1), -4);
        due(18, "decoded(2, 0)", x.decoded(2, 0), -1000000004L);
        due(18, "decoded(2, 1)", x.decoded(2, 1), -1000000004L);
        due(18, "decoded(MAX, 1)", x.decoded(Integer.MAX_VALUE, 1), -1000000004L);
        due(18, "decoded(-1, 0)", x.decoded(-1, 0), -1000000001L);
        due(18, "decoded(0, 2)", x.decoded(0, 2), -1000000001L);
        due(18, "decoded(0, -1)", x.decoded(0, -1), -1000000001L);
        due(18, "decoded(2, 2): wrong goes first", x.decoded(2, 2), -1000000001L);
        x.add(1, -9);
        due(18, "decoded(1, 0): the latest decode()", x.decoded(1, 0), 2);
        x.decode();
        due(18, "decoded(0, 0): now", x.decoded(0, 0), 2);
        due(18, "decoded(1, 0): now", x.decoded(1, 0), -1000000004L);
    }

    private static void bucket() {
        FewThatMatter x = new FewThatMatter();
        x.sketch(4, 32);
        x.add(999999, -1000);
        for (int i = 0; i < 4; i++) {
            long b = (999999L * (2 * i + 3) + 999999L / (5 * i + 7)) % 32;
            due(19, "bucket, numbers", x.bucket(i, (int) b, 0), -1000);
            due(19, "bucket, times place", x.bucket(i, (int) b, 1), -999999000L);
            due(19, "bucket, times place twice", x.bucket(i, (int) b, 2),
                Math.floorMod(-1000L * (999999L * 999999L % 1000003L), 1000003L));
            due(19, "bucket, another", x.bucket(i, (int) (b + 1) % 32, 0), 0);
        }
        x.sketch(2, 3);
        x.add(999999, 1000);
        x.add(999999, 1000);
        x.add(999996, 7);
        due(19, "bucket(0, 0, 0) and the rest", x.bucket(0, 0, 0) + x.bucket(0, 1, 0) + x.bucket(0, 2, 0), 2007);
        due(19, "bucket(1, ., 1)", x.bucket(1, 0, 1) + x.bucket(1, 1, 1) + x.bucket(1, 2, 1),
            2000L * 999999 + 7L * 999996);
        long bad = -1000000000000000000L;
        due(19, "bucket(2, 0, 0)", x.bucket(2, 0, 0), bad);
        due(19, "bucket(-1, 0, 0)", x.bucket(-1, 0, 0), bad);
        due(19, "bucket(0, 3, 0)", x.bucket(0, 3, 0), bad);
        due(19, "bucket(0, -1, 0)", x.bucket(0, -1, 0), bad);
        due(19, "bucket(0, 0, 3)", x.bucket(0, 0, 3), bad);
        due(19, "bucket(0, 0, -1)", x.bucket(0, 0, -1), bad);
        due(19, "bucket(MAX, MIN, 0)", x.bucket(Integer.MAX_VALUE, Integer.MIN_VALUE, 0), bad);
    }

    private static void count() {
        FewThatMatter x = new FewThatMatter();
        x.begin(89, 5, 9);
        x.sketch(3, 17);
        x.add(1, 1);
        x.add(1, 1);
        int[] counts = {89, 5, 9, 3, 17, 2};
        for (int what = 0; what < counts.length; what++) {
            due(20, "count(" + what + ")", x.count(what), counts[what]);
        }
        due(20, "count(-1)", x.count(-1), FewThatMatter.BAD);
        due(20, "count(6)", x.count(6), FewThatMatter.BAD);
        due(20, "count(MIN)", x.count(Integer.MIN_VALUE), FewThatMatter.BAD);
        due(20, "BAD", FewThatMatter.BAD, -1);
        due(20, "NO", FewThatMatter.NO, -2);
        due(20, "FULL", FewThatMatter.FULL, -3);
        due(20, "NONE", FewThatMatter.NONE, -4);
    }
}
