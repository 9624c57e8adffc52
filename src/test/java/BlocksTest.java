/** Promises 7 to 17: blocks, layers, what changes them, what bears and what stands. */
public final class BlocksTest {
    private static final Check check = new Check();

    public static void main(String[] args) {
        blocks();
        layers();
        bearing();
        tilted();
        planed();
        sheets();
        tables();
        swollen();
        bumped();
        standing();
        looseOnes();
        weakestOnes();
        leaning();
        check.finish();
    }

    private static void blocks() {
        FelledHasLost x = Check.on("358/9.1/4..");
        int[] numbers = {0, 1, 2, 3, 5, 6};
        int[][] due = {{3, 13, 0, 3, 1}, {5, 15, 1, 3, 1}, {8, 18, 1, 3, 1}, {9, 19, 1, 1, 0}, {1, 11, 1, 1, 0}, {4, 14, 1, 0, 0}};
        for (int i = 0; i < numbers.length; i++) {
            for (int what = 0; what < 5; what++) {
                check.due("block(" + numbers[i] + ", " + what + ")", x.block(numbers[i], what), due[i][what]);
            }
        }
        for (int b : new int[] {4, 7, 8, 9, 47, 48, 51, -1, Integer.MIN_VALUE, Integer.MAX_VALUE}) {
            check.none("block(" + b + ", 0)", () -> x.block(b, 0));
        }
        for (int what : new int[] {-1, 5, Integer.MIN_VALUE, Integer.MAX_VALUE}) {
            check.none("block(0, " + what + ")", () -> x.block(0, what));
        }
        check.due("the tower stays", Check.told(x), "358/9.1/4..");
        check.due("one of the highest layer", Check.on("999/999").block(3, 4), 1);
    }

    private static void layers() {
        FelledHasLost x = Check.on("358/9.1/4..");
        int[][] due = {{3, 44, -140, 160, 1, 2, 6}, {2, 14, 0, 420, 0, 2, 5}, {1, 0, 0, 0, 0, 0, 1}};
        for (int l = 0; l < 3; l++) {
            for (int what = 0; what < 7; what++) {
                check.due("layer(" + l + ", " + what + ")", x.layer(l, what), due[l][what]);
            }
        }
        for (int l : new int[] {-1, 3, 16, Integer.MIN_VALUE, Integer.MAX_VALUE}) {
            check.none("layer(" + l + ", 0)", () -> x.layer(l, 0));
        }
        for (int what : new int[] {-1, 7, Integer.MIN_VALUE, Integer.MAX_VALUE}) {
            check.none("layer(0, " + what + ")", () -> x.layer(0, what));
        }
    }

    private static void bearing() {
        String[] layers = {"999", "998", "899", "989", "898", "988", "889", "987", "789", "897", "798", "9..", ".9.", "..9",
            "98.", "89.", "99.", ".98", ".89", ".99", "9.8", "8.9", "9.9", "0..", "00.", "978", "879"};
        int[] bits = {7, 3, 6, 5, 2, 7, 7, 3, 6, 2, 2, 1, 2, 4,
            3, 2, 3, 2, 6, 6, 5, 5, 5, 1, 3, 5, 5};
        for (int i = 0; i < layers.length; i++) {
            FelledHasLost x = Check.on(layers[i]);
            check.due("bearing of " + layers[i], x.layer(0, 6), bits[i]);
            check.due("the least of " + layers[i], x.layer(0, 4), Integer.numberOfTrailingZeros(bits[i]));
            check.due("the greatest of " + layers[i], x.layer(0, 5), 31 - Integer.numberOfLeadingZeros(bits[i]));
            int loose = 0;
            for (int p = 0; p < 3; p++) {
                if (layers[i].charAt(p) != '.') {
                    check.due("block(" + p + ", 2) of " + layers[i], x.block(p, 2), bits[i] >> p & 1);
                    loose |= (~bits[i] >> p & 1) << p;
                }
            }
            check.due("loose() of " + layers[i], x.loose(), Integer.bitCount(loose));
            check.row("loose() of " + layers[i], x, loose);
        }
    }

    private static void tilted() {
        FelledHasLost x = Check.on("358/9.1/4..");
        x.table(0, 3);
        check.due("S of a layer along", x.layer(0, 2), -140 + 3 * (30 + 14 * 2));
        check.due("its margin", x.layer(0, 3), 68 + 440);
        check.due("S of a layer across", x.layer(1, 2), 0);
        x.table(1, -2);
        check.due("S of a layer across, tilted", x.layer(1, 2), -28);
        check.due("its margin", x.layer(1, 3), 420 - 56);
        check.due("S along is as it was", x.layer(0, 2), 34);
        check.due("the highest layer", x.layer(2, 3), 0);
    }

    private static void planed() {
        FelledHasLost x = Check.on("358/9.1");
        check.due("plane(0, 9)", x.plane(0, 9), 3);
        check.due("plane(0, 0)", x.plane(0, 0), 9);
        check.due("plane(5, 1)", x.plane(5, 1), 1);
        int[][] refused = {{4, 1}, {6, 1}, {-1, 1}, {0, 10}, {0, -1}, {48, 0}, {Integer.MAX_VALUE, 0}};
        for (int[] r : refused) {
            check.due("plane(" + r[0] + ", " + r[1] + ")", x.plane(r[0], r[1]), -1);
        }
        check.due("the tower", Check.told(x), "058/9.1");
        check.due("who bears changed", x.layer(0, 6), 6);
        x.plane(0, 9);
        check.due("who bears changed again", x.layer(0, 6), 5);
    }

    private static void sheets() {
        int max = Integer.MAX_VALUE;
        int[][] calls = {{2, 3, 1, 2}, {0, 5, 254, 1}, {1, 2, 65540, 1}, {2, 2, 65540, 1}, {1, 2, 65536 + 32767, 1}, {2, 5, 9, -3},
            {2, 0, 5, 5}, {2, 48, 7, 0}, {3, 0, 9, 9}, {3, -5, 9, 9}, {3, 48, 9, 9}, {2, 2, max, 1}, {0, 2, 127, 1}};
        int[] due = {9, 3, 9, 18, 9, 18, 0, 35, -3, -3, -3, 9, 9};
        String[] towers = {"1.3/500", "0.0/012", "4.5/000", "9.9/000", "9.0/000", "9.6/300", "0.0/000", "7.7/777", "0.0/000", "0.0/000",
            "0.0/000", "9.0/000", "9.0/000"};
        for (int i = 0; i < calls.length; i++) {
            FelledHasLost x = Check.on("9.9/999");
            int[] c = calls[i];
            check.due("sheet " + i, x.sheet(c[0], c[1], c[2], c[3]), due[i]);
            check.due("the tower behind sheet " + i, Check.told(x), towers[i]);
        }
        int[][] refused = {{4, 0, 0, 0}, {-1, 0, 0, 0}, {0, 49, 0, 0}, {3, 49, 0, 0}, {4, -1, 0, 0}, {0, max, 0, 0},
            {0, -1, 0, 0}, {1, -1, 0, 0}, {2, Integer.MIN_VALUE, 0, 0}};
        for (int i = 0; i < refused.length; i++) {
            FelledHasLost x = Check.on("9.9/999");
            int[] c = refused[i];
            check.due("refused sheet " + i, x.sheet(c[0], c[1], c[2], c[3]), i < 6 ? -1 : -2);
            check.due("the tower behind it", Check.told(x), "9.9/999");
        }
    }

    private static void tables() {
        FelledHasLost x = new FelledHasLost();
        check.due("table(0, 9)", x.table(0, 9), true);
        check.due("table(1, -9)", x.table(1, -9), true);
        int[][] refused = {{0, 10}, {0, -10}, {1, 10}, {2, 0}, {-1, 0}, {0, Integer.MIN_VALUE}};
        for (int[] r : refused) {
            check.due("table(" + r[0] + ", " + r[1] + ")", x.table(r[0], r[1]), false);
        }
        check.due("along", x.count(7), 9);
        check.due("across", x.count(8), -9);
    }

    private static void swollen() {
        FelledHasLost x = Check.on("158/9.1");
        int[] by = {3, 9, 0, -9, -1};
        int[] due = {3, 2, 0, 3, 0};
        String[] towers = {"489/9.1", "999/9.1", "999/9.1", "000/9.1", "000/9.1"};
        for (int i = 0; i < by.length; i++) {
            check.due("swell(0, " + by[i] + ")", x.swell(0, by[i]), due[i]);
            check.due("the tower", Check.told(x), towers[i]);
        }
        check.due("a gap stays", x.swell(1, 1), 1);
        check.due("the tower", Check.told(x), "000/9.2");
        int[][] refused = {{2, 1}, {-1, 1}, {0, 10}, {0, -10}, {Integer.MAX_VALUE, 1}};
        for (int[] r : refused) {
            check.due("swell(" + r[0] + ", " + r[1] + ")", x.swell(r[0], r[1]), -1);
        }
    }

    private static void bumped() {
        for (int seed : new int[] {0, 1, -1, 12345, Integer.MIN_VALUE, Integer.MAX_VALUE, 987654321}) {
            FelledHasLost x = Check.on("999/.9./999/..9");
            long r = (seed * 1103515245L + 12345) & 0xffffffffL;
            int along = (int) (r / 65536 % 19) - 9;
            r = (r * 1103515245L + 12345) & 0xffffffffL;
            int across = (int) (r / 65536 % 19) - 9;
            int got = x.bump(seed);
            check.due("along by " + seed, x.count(7), along);
            check.due("across by " + seed, x.count(8), across);
            check.due("bump(" + seed + ")", got, x.stands());
        }
        FelledHasLost x = Check.on(".99/999/999");
        check.due("bump behind which it does not stand", x.bump(0), 0);
        check.due("it is not FELLED by that", x.count(5), 0);
    }

    private static void standing() {
        String[] towers = {"", "9..", "358/9.1/4..", "9../999/999", "999/9../999", "9../9../999", ".9./9.9/.9."};
        long[][] rows = {{-1, 0}, {-1, 0}, {-1, 160}, {0, -1140}, {1, -570}, {0, -760}, {-1, 570}};
        for (int i = 0; i < towers.length; i++) {
            FelledHasLost x = Check.on(towers[i]);
            check.due("stands() of " + towers[i], x.stands(), rows[i][0] == -1 ? 1 : 0);
            check.row("stands() of " + towers[i], x, rows[i]);
        }
        FelledHasLost onEdge = Check.on(".9./.0./0..");
        check.due("on the edge it stands", onEdge.stands(), 1);
        check.row("on the edge", onEdge, -1, 0);
    }

    private static void looseOnes() {
        FelledHasLost x = Check.on("191/358/999/.98");
        check.due("loose()", x.loose(), 4);
        check.row("loose()", x, 5, 1, 0, 4);
        FelledHasLost none = new FelledHasLost();
        check.due("loose() of none", none.loose(), 0);
        check.row("loose() of none", none);
    }

    private static void weakestOnes() {
        String[] towers = {"358/9.1/4..", "999/999/999", ".9./9.9/.9.", "9../999/999", "999/9../999"};
        long[] due = {0, 1, 0, 0, 1};
        long[] margins = {160, 1710, 570, -1140, -570};
        for (int i = 0; i < towers.length; i++) {
            FelledHasLost x = Check.on(towers[i]);
            check.due("weakest() of " + towers[i], x.weakest(), due[i]);
            check.row("weakest() of " + towers[i], x, margins[i]);
        }
        FelledHasLost x = Check.on("999");
        x.stands();
        check.due("weakest() of one layer", x.weakest(), -2);
        check.row("weakest() that tells none: as it was", x, -1, 0);
    }

    private static void leaning() {
        FelledHasLost x = Check.on("358/9.1/4..");
        check.due("lean(0)", x.lean(0), -9);
        check.row("lean(0)", x, 90);
        check.due("lean(1)", x.lean(1), -8);
        check.row("lean(1)", x, 90);
        for (int which : new int[] {-1, 2, Integer.MIN_VALUE}) {
            check.due("lean(" + which + ")", x.lean(which), -100000);
        }
        x.table(0, 9);
        check.due("the table does not matter", x.lean(0), -9);
    }
}
