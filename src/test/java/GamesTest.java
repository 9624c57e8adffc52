/** Promises 27 to 32: games. */
public final class GamesTest {
    private static final Check check = new Check();

    public static void main(String[] args) {
        small();
        none();
        felled();
        tooMany();
        tilted();
        freed();
        longRows();
        nothingChanges();
        check.finish();
    }

    private static void small() {
        FelledHasLost x = Check.on("999/999");
        check.due("wins()", x.wins(), 1);
        check.row("wins()", x, 10);
        check.due("longest()", x.longest(), 2);
        check.row("longest()", x, 0, 21);
        check.due("shortest()", x.shortest(), 1);
        check.row("shortest()", x, 10);
        check.due("high()", x.high(), 3);
        check.row("high()", x, 1, 0);
        check.due("towers()", x.towers(), 13);
        check.row("towers()", x, 6);
        // From ".99/999" the right one alone can be drawn, to three places, and then none.
        x = Check.on(".99/999");
        check.due("wins() by one", x.wins(), 1);
        check.row("wins() by one", x, 20);
        check.due("longest() of one", x.longest(), 1);
        check.row("longest() of one", x, 20);
        check.due("shortest() of one", x.shortest(), 1);
        check.row("shortest() of one", x, 20);
        check.due("towers() of one", x.towers(), 4);
        check.row("towers() of one", x, 3);
        // Two more moves at most from ".99/999/..9", both of the right one: to the left, to the middle.
        x = Check.on(".99/999/..9");
        check.due("towers() with a gap on top", x.towers(), 3);
        check.row("towers() with a gap on top", x, 2);
        check.due("high() with a gap on top", x.high(), 3);
        check.row("high() with a gap on top", x, 0, -1);
    }

    private static void none() {
        String[] towers = {"", "999", ".9./999", "9.9/999", "9../999/999"};
        for (String tower : towers) {
            FelledHasLost x = Check.on(tower);
            check.due("wins() of " + tower, x.wins(), 0);
            check.row("wins() of " + tower, x, -1);
            check.due("longest() of " + tower, x.longest(), 0);
            check.row("longest() of " + tower, x);
            x.stands();
            check.due("shortest() of " + tower, x.shortest(), 0);
            check.row("shortest() of " + tower, x);
            check.due("high() of " + tower, x.high(), (tower.length() + 1) / 4);
            check.row("high() of " + tower, x, 0, -1);
            check.due("towers() of " + tower, x.towers(), 1);
            check.row("towers() of " + tower, x, 1);
        }
    }

    private static void felled() {
        FelledHasLost x = Check.on("999/9.9/999/999");
        check.due("felled", x.move(30), 0);
        check.due("wins()", x.wins(), 0);
        check.row("wins()", x, -1);
        check.due("longest()", x.longest(), 0);
        check.due("shortest()", x.shortest(), 0);
        check.due("high()", x.high(), 4);
        check.row("high()", x, 0, -1);
        check.due("towers()", x.towers(), 1);
        check.row("towers()", x, 1);
        check.due("free() of a gap", x.free(3), 0);
        check.row("free() of a gap", x);
        check.due("free() of another", x.free(0), -2);
        check.due("free() of none", x.free(12), -1);
        // Felled by its last block, it stands yet, and others could be drawn if it were not felled.
        x = Check.on(".9./999/999");
        check.due("others could be drawn", x.towers() > 1, true);
        check.due("felled", x.move(11), 0);
        check.due("it stands", x.stands(), 1);
        check.due("towers() of one that stands", x.towers(), 1);
        check.due("longest() of one that stands", x.longest(), 0);
        check.due("free() of one that stands", x.free(3), -2);
    }

    private static void tooMany() {
        FelledHasLost x = Check.on("999/999/999/999");
        x.stands();
        check.due("wins()", x.wins(), -3);
        check.due("longest()", x.longest(), -3);
        check.due("shortest()", x.shortest(), -3);
        check.due("high()", x.high(), -3);
        check.due("towers()", x.towers(), -3);
        check.row("what was told ahead of them", x, -1, 1710);
        check.due("free() among the first", x.free(0), 1);
        check.row("free() among the first", x, 0);
        check.due("free() of the highest layer", x.free(9), 4);
        check.due("free() of one that is not", Check.on("999/999/999/999/999/999").free(15), -3);
        check.due("free() of the middle", x.free(7), 1);
        check.row("free() of the middle", x, 70);
        check.due("401 are too many", Check.on("202/259/96./4..").towers(), -3);
        check.due("396 are not", Check.on("22./225/924/.3.").towers(), 396);
        FelledHasLost edge = Check.on("266/.26/.6./9.6/64./252");
        check.due("400 are not", edge.towers(), 400);
        check.due("wins() of 400", edge.wins() >= 0, true);
        FelledHasLost tilted = Check.on("999/737/875");
        tilted.table(0, -3);
        tilted.table(1, -2);
        check.due("400 on another table are not", tilted.towers(), 400);
    }

    private static void tilted() {
        FelledHasLost x = Check.on("999/999");
        x.table(0, 9);
        check.due("towers() on a table that gives", x.towers() < 13, true);
        x.table(0, 0);
        check.due("towers() on an even one", x.towers(), 13);
    }

    private static void freed() {
        FelledHasLost x = Check.on("999/999");
        for (int b = 0; b < 3; b++) {
            check.due("free(" + b + ")", x.free(b), 1);
            check.row("free(" + b + ")", x, 10 * b);
        }
        for (int b = 3; b < 6; b++) {
            check.due("free(" + b + ")", x.free(b), -2);
        }
        check.row("none told: as it was", x, 20);
        for (int b : new int[] {-1, 6, 47, 48, Integer.MIN_VALUE, Integer.MAX_VALUE}) {
            check.due("free(" + b + ")", x.free(b), -1);
        }
        x = Check.on("9.9/999");
        check.due("free() of a gap", x.free(1), 0);
        check.row("free() of a gap", x);
        check.due("free() of what bears", x.free(0), -2);
    }

    /** Only the first ten moves are told. */
    private static void longRows() {
        FelledHasLost x = Check.on("7.7/..8/1.2/525/164/.79/5.5");
        x.table(0, -1);
        x.table(1, 1);
        int most = x.longest();
        check.due("more than ten", most, 15);
        check.due("ten are told", x.count(11), 10);
        long[] row = new long[10];
        for (int i = 0; i < 10; i++) {
            row[i] = x.row(i);
        }
        for (int i = 0; i < 10; i++) {
            check.due("one less is left", x.longest(), most - i);
            check.row("the rest of it", x, rest(row, i, x.count(11), x));
            check.due("and it is safe", x.move((int) row[i]), 1);
        }
    }

    private static long[] rest(long[] row, int from, int size, FelledHasLost x) {
        long[] due = new long[size];
        for (int i = 0; i < size; i++) {
            due[i] = from + i < row.length ? row[from + i] : x.row(i);
        }
        return due;
    }

    private static void nothingChanges() {
        FelledHasLost x = Check.on("987/868/9.9");
        x.move(1);
        String tower = Check.told(x);
        int[] counts = new int[11];
        for (int i = 0; i < 11; i++) {
            counts[i] = x.count(i);
        }
        x.wins();
        x.longest();
        x.shortest();
        x.high();
        x.towers();
        x.free(0);
        check.due("the tower", Check.told(x), tower);
        for (int i = 0; i < 11; i++) {
            check.due("count(" + i + ")", x.count(i), counts[i]);
        }
    }
}
