/** Promises 35 to 41: what was felt. */
public final class FeltTest {
    private static final Check check = new Check();

    public static void main(String[] args) {
        told();
        knownTold();
        fitting();
        spans();
        sureOnes();
        touching();
        forgotten();
        whenBlocksMove();
        check.finish();
    }

    private static void told() {
        FelledHasLost x = Check.on("9.9/999");
        int[][] refused = {{1, 0}, {6, 0}, {-1, 0}, {0, 2}, {0, -1}, {48, 1}, {Integer.MAX_VALUE, 1}};
        for (int[] r : refused) {
            check.due("felt(" + r[0] + ", " + r[1] + ")", x.felt(r[0], r[1]), -1);
        }
        for (int n = 1; n <= 20; n++) {
            check.due("felt " + n, x.felt(3, n % 2), n);
        }
        check.due("felt 21", x.felt(3, 0), -1);
        check.due("touches", x.count(10), 20);
        check.due("forget()", x.forget(), 20);
        check.due("touches", x.count(10), 0);
        check.due("felt again", x.felt(3, 0), 1);
    }

    private static void knownTold() {
        FelledHasLost x = Check.on("9.9/999");
        int[][] refused = {{1, 0, 9}, {6, 0, 9}, {-1, 0, 9}, {0, -1, 9}, {0, 0, 10}, {0, 5, 4}, {0, 10, 10}, {0, -2, -1}, {48, 0, 9}};
        for (int[] r : refused) {
            check.due("known(" + r[0] + ", " + r[1] + ", " + r[2] + ")", x.known(r[0], r[1], r[2]), false);
        }
        check.due("nothing is known by these", x.fits(0), 100);
        check.due("known(0, 3, 5)", x.known(0, 3, 5), true);
        check.due("fits", x.fits(0), 30);
        check.due("known(0, 0, 0)", x.known(0, 0, 0), true);
        check.due("fits by the latest", x.fits(0), 10);
        check.due("known(0, 0, 9)", x.known(0, 0, 9), true);
        check.due("fits all", x.fits(0), 100);
        check.due("it is no touch", x.count(10), 0);
    }

    private static void fitting() {
        FelledHasLost x = Check.on("999/99./.9./9.9");
        int[] all = {1000, 100, 10, 100};
        long[][] rows = {{0, 0, 0, 9, 9, 9}, {0, 0, 9, 9}, {0, 9}, {0, 0, 9, 9}};
        for (int l = 0; l < 4; l++) {
            check.due("fits(" + l + ")", x.fits(l), all[l]);
            check.row("fits(" + l + ")", x, rows[l]);
        }
        for (int l : new int[] {-1, 4, 16, Integer.MAX_VALUE, Integer.MIN_VALUE}) {
            check.due("fits(" + l + ")", x.fits(l), -1);
        }
        check.due("the row stays", x.count(11), 4);
        x.felt(3, 0);
        check.due("fits(1), the left one loose", x.fits(1), 45);
        check.row("fits(1), the left one loose", x, 0, 1, 8, 9);
        x.felt(4, 0);
        check.due("both loose", x.fits(1), 0);
        check.row("both loose", x);
        x.felt(7, 1);
        check.due("one alone is tight", x.fits(2), 10);
        x.felt(9, 0);
        check.due("two at the sides are tight", x.fits(3), 0);
        x.felt(0, 0);
        check.due("the left one of three loose", x.fits(0), 450);
        check.row("the left one of three loose", x, 0, 1, 0, 8, 9, 9);
        x.felt(2, 0);
        check.due("both sides loose", x.fits(0), 285);
        check.row("both sides loose", x, 0, 1, 0, 8, 9, 8);
        x.known(1, 0, 2);
        check.due("both sides loose, the middle thin", x.fits(0), 5);
        check.row("both sides loose, the middle thin", x, 0, 1, 0, 1, 2, 1);
    }

    private static void spans() {
        FelledHasLost x = Check.on("999/99.");
        check.due("span(0)", x.span(0), 1023);
        x.felt(3, 0);
        check.due("span(3)", x.span(3), 511);
        check.due("span(4)", x.span(4), 1022);
        check.due("span(0) stays", x.span(0), 1023);
        x.known(4, 2, 3);
        check.due("span(3) then", x.span(3), 7);
        check.due("span(4) then", x.span(4), 12);
        x.felt(4, 0);
        check.due("span(3) when nothing fits", x.span(3), 0);
        for (int b : new int[] {5, 6, -1, 48, Integer.MIN_VALUE}) {
            check.due("span(" + b + ")", x.span(b), -1);
        }
    }

    private static void sureOnes() {
        FelledHasLost x = Check.on("999/99.");
        check.due("sure(3)", x.sure(3), 2);
        check.row("sure(3)", x, 55, 100);
        check.due("sure(4)", x.sure(4), 1);
        check.row("sure(4)", x, 100, 100);
        x.felt(3, 0);
        check.due("sure(3) then", x.sure(3), 0);
        check.row("sure(3) then", x, 0, 45);
        for (int b : new int[] {5, 6, -1, 48}) {
            check.due("sure(" + b + ")", x.sure(b), -1);
        }
        x.felt(3, 1);
        check.due("sure(4) when nothing fits", x.sure(4), -2);
        check.row("the row stays", x, 0, 45);
        check.due("sure(0)", x.sure(0), 2);
        check.row("sure(0)", x, 550, 1000);
    }

    private static void touching() {
        FelledHasLost x = Check.on("999/99./.9.");
        check.due("touch(1)", x.touch(1), 3);
        check.row("touch(1)", x, 55);
        check.due("touch(2)", x.touch(2), 7);
        check.row("touch(2)", x, 10);
        check.due("touch(0)", x.touch(0), 0);
        check.row("touch(0)", x, 550);
        for (int l : new int[] {-1, 3, 16, Integer.MIN_VALUE}) {
            check.due("touch(" + l + ")", x.touch(l), -1);
        }
        x.felt(0, 0);
        check.due("touch(0) then", x.touch(0), 2);
        check.row("touch(0) then", x, 285);
        x.felt(0, 1);
        check.due("touch(0) when nothing fits", x.touch(0), -2);
        check.row("the row stays", x, 285);
    }

    private static void forgotten() {
        FelledHasLost x = Check.on("999/999");
        x.felt(0, 0);
        x.felt(1, 1);
        x.known(2, 5, 5);
        check.due("fits", x.fits(0), 45);
        check.due("forget()", x.forget(), 2);
        check.due("fits all", x.fits(0), 1000);
        check.due("forget() of none", x.forget(), 0);
        x.felt(0, 0);
        x.known(2, 5, 5);
        x.keep(0);
        x.again(0);
        check.due("again() forgets touches", x.count(10), 0);
        check.due("again() forgets what is known", x.fits(0), 1000);
        x.felt(0, 0);
        x.known(2, 5, 5);
        Check.tower(x, "999/999");
        check.due("tower() forgets touches", x.count(10), 0);
        check.due("tower() forgets what is known", x.fits(0), 1000);
    }

    private static void whenBlocksMove() {
        FelledHasLost x = Check.on("99./999/999");
        x.felt(0, 1);
        x.known(1, 2, 4);
        check.due("fits", x.fits(0), 10 - 2 + 10 - 3 + 10 - 4);
        check.due("a move", x.move(0), 1);
        check.due("touches stay", x.count(10), 1);
        check.due("of a block that is gone nothing matters", x.fits(0), 3);
        check.row("fits", x, 2, 4);
        x.undo();
        check.due("undone it matters again", x.fits(0), 10 - 2 + 10 - 3 + 10 - 4);
    }
}
