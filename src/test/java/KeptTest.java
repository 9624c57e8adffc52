/** Promises 42 to 45: what is kept, counts and the row. */
public final class KeptTest {
    private static final Check check = new Check();

    public static void main(String[] args) {
        kept();
        keptFelled();
        keptByPlayers();
        counts();
        rows();
        check.finish();
    }

    private static void kept() {
        FelledHasLost x = Check.on("999/999");
        for (int i : new int[] {-1, 3, Integer.MIN_VALUE, Integer.MAX_VALUE}) {
            check.due("keep(" + i + ")", x.keep(i), false);
            check.due("again(" + i + ")", x.again(i), false);
        }
        for (int i = 0; i < 3; i++) {
            check.due("again(" + i + ") of nothing", x.again(i), false);
        }
        check.due("keep(2)", x.keep(2), true);
        x.move(0);
        check.due("keep(0)", x.keep(0), true);
        x.plane(3, 1);
        x.table(1, 4);
        check.due("again(1) of nothing", x.again(1), false);
        check.due("undo stays", x.count(9), 1);
        x.felt(3, 1);
        check.due("again(0)", x.again(0), true);
        check.due("the tower", Check.told(x), ".99/999/9..");
        check.due("to move", x.count(4), 1);
        check.due("the table is not kept", x.count(8), 4);
        check.due("undo", x.count(9), 0);
        check.due("touches", x.count(10), 0);
        check.due("again(2)", x.again(2), true);
        check.due("the tower", Check.told(x), "999/999");
        check.due("to move", x.count(4), 0);
        x.plane(0, 1);
        check.due("what was kept stays", x.again(2), true);
        check.due("the tower", Check.told(x), "999/999");
        Check.tower(x, "");
        check.due("one of no layers is kept", x.keep(2), true);
        Check.tower(x, "123");
        check.due("and comes again", x.again(2), true);
        check.due("layers", x.count(0), 0);
    }

    private static void keptFelled() {
        FelledHasLost x = Check.on("999/9.9/999");
        x.move(0);
        x.undo();
        Check.players(x, "123");
        x.move(0);
        check.due("a safe one", x.move(21), 1);
        check.due("one that fells", x.move(32), 0);
        check.due("by", x.count(6), 2);
        x.keep(1);
        Check.tower(x, "999/999");
        Check.players(x, "12");
        x.move(0);
        check.due("again(1)", x.again(1), true);
        check.due("felled", x.count(5), 1);
        check.due("by the same", x.count(6), 2);
        check.due("to move, 0 by 2", x.count(4), 0);
        check.due("why()", x.why(), 2);
        check.due("the first layer", x.row(0), 1);
        check.due("its margin", x.row(1), -1330);
        check.due("nothing can be moved", x.moves(), 0);
        check.due("nor undone", x.undo(), -1);
    }

    private static void keptByPlayers() {
        FelledHasLost x = Check.on("999/999/999/999");
        Check.players(x, "1234");
        for (int n = 0; n < 3; n++) {
            x.move(x.best());
        }
        x.keep(0);
        Check.players(x, "12");
        check.due("again(0)", x.again(0), true);
        check.due("3 by 2", x.count(4), 1);
        Check.players(x, "5");
        x.again(0);
        check.due("3 by 1", x.count(4), 0);
        Check.players(x, "5678");
        x.again(0);
        check.due("3 by 4", x.count(4), 3);
    }

    private static void counts() {
        FelledHasLost x = Check.on("9.9/999/1..");
        Check.players(x, "123");
        x.table(0, -1);
        x.table(1, 2);
        x.felt(0, 1);
        x.loose();
        x.sign(0);
        long[] due = {3, 6, 3, 3, 0, 0, -1, -1, 2, 0, 1, 3, 4};
        for (int i = 0; i < due.length; i++) {
            check.due("count(" + i + ")", x.count(i), due[i]);
        }
        for (int i : new int[] {-1, 13, Integer.MIN_VALUE, Integer.MAX_VALUE}) {
            check.due("count(" + i + ")", x.count(i), -100);
        }
        check.due("felled", x.move(1), 0);
        check.due("count(5)", x.count(5), 1);
        check.due("count(6)", x.count(6), 0);
        check.due("count(9)", x.count(9), 1);
        check.due("count(1)", x.count(1), 5);
        check.due("count(2)", x.count(2), 4);
    }

    private static void rows() {
        FelledHasLost x = Check.on("191/358/999/.98");
        x.loose();
        check.due("row(0)", x.row(0), 5);
        check.due("row(3)", x.row(3), 4);
        for (int i : new int[] {-1, 4, 16, Integer.MIN_VALUE, Integer.MAX_VALUE}) {
            check.none("row(" + i + ")", () -> x.row(i));
        }
        x.stands();
        check.none("row(2) of two", () -> x.row(2));
        x.why();
        check.none("row(0) of none", () -> x.row(0));
        StringBuilder sixteen = new StringBuilder("191");
        for (int l = 1; l < 16; l++) {
            sixteen.append("/191");
        }
        FelledHasLost y = Check.on(sixteen.toString());
        check.due("loose()", y.loose(), 32);
        check.due("the longest row", y.count(11), 16);
        check.due("its last number", y.row(15), 5);
    }
}
