/** Promises 33 and 34: chances. */
public final class ChancesTest {
    private static final Check check = new Check();

    public static void main(String[] args) {
        chances();
        chancesOfNone();
        handsByTurns();
        losers();
        losersCut();
        check.finish();
    }

    private static void chances() {
        String[] rules = {"", "50", "25", "0", "100", "5+(p=j)", "9-j*4", "99"};
        long[][] one = {{99, 100, 0}, {1, 2, 0}, {3, 4, 0}, {1, 1, 0}, {0, 1, -1}, {19, 20, 0}, {19, 20, 0}, {1, 100, 0}};
        long[][] two = {{9801, 10000, 0}, {1, 4, 0}, {9, 16, 0}, {1, 1, 0}, {0, 1, -1}, {361, 400, 0}, {361, 400, 0}, {1, 10000, 0}};
        for (int i = 0; i < rules.length; i++) {
            FelledHasLost x = Check.on("999/999");
            Check.rule(x, rules[i]);
            check.due("chance(0)", x.chance(0), 0);
            check.row("chance(0) by " + rules[i], x, 1, 1, -1);
            check.due("chance(1)", x.chance(1), 0);
            check.row("chance(1) by " + rules[i], x, one[i]);
            check.due("chance(2)", x.chance(2), 0);
            check.row("chance(2) by " + rules[i], x, two[i]);
        }
        // The least odds are of drawing the middle one, behind which nothing is safe.
        FelledHasLost x = Check.on("999/999");
        Check.rule(x, "9-(p=1)*8");
        x.chance(1);
        check.row("chance(1), drawing the middle one", x, 99, 100, 10);
        x.chance(2);
        check.row("chance(2), not drawing the middle one", x, 91 * 91, 10000, 0);
        x = Check.on("999/999");
        for (int n : new int[] {-1, 3, Integer.MIN_VALUE, Integer.MAX_VALUE}) {
            check.due("chance(" + n + ")", x.chance(n), -1);
        }
        check.due("no row by these", x.count(11), 0);
    }

    private static void chancesOfNone() {
        FelledHasLost x = Check.on(".99/999");
        x.chance(1);
        check.row("chance(1) of one", x, 99, 100, 20);
        x.chance(2);
        check.row("chance(2) of one", x, 0, 1, -1);
        x = Check.on("9.9/999");
        x.chance(1);
        check.row("chance(1) of none", x, 0, 1, -1);
        x.move(0);
        check.due("felled", x.count(5), 1);
        x.chance(0);
        check.row("chance(0) of a felled one", x, 1, 1, -1);
        x.chance(1);
        check.row("chance(1) of a felled one", x, 0, 1, -1);
        x.chance(2);
        check.row("chance(2) of a felled one", x, 0, 1, -1);
        check.due("chance(3) of a felled one", x.chance(3), -1);
    }

    private static void handsByTurns() {
        FelledHasLost x = Check.on("999/999/999");
        Check.players(x, "37");
        Check.rule(x, "h");
        x.chance(2);
        check.row("chance(2)", x, 9021, 10000, 0);
        x.move(0);
        x.chance(1);
        check.row("chance(1) of the next one", x, 93, 100, 21);
        Check.players(x, "5");
        x.chance(2);
        check.row("chance(2) of one alone", x, 361, 400, 21);
    }

    private static void losers() {
        FelledHasLost x = Check.on("999/999");
        Check.players(x, "37");
        Check.rule(x, "h");
        check.due("loser(0)", x.loser(0), 0);
        check.row("loser(0)", x, 0, 0, 10000);
        check.due("loser(1)", x.loser(1), 0);
        check.row("loser(1)", x, 300, 0, 9700);
        check.due("loser(2)", x.loser(2), 1);
        check.row("loser(2)", x, 300, 679, 9021);
        check.due("loser(20)", x.loser(20), 1);
        check.row("loser(20): no more are safe", x, 300, 679, 9021);
        for (int n : new int[] {-1, 21, Integer.MIN_VALUE, Integer.MAX_VALUE}) {
            check.due("loser(" + n + ")", x.loser(n), -1);
        }
        check.due("the row stays", x.count(11), 3);
        check.due("the tower stays", Check.told(x), "999/999");
        x.move(0);
        check.due("loser() from the second on", x.loser(1), 1);
        check.row("loser() from the second on", x, 0, 700, 9300);
        x.undo();
        Check.rule(x, "0");
        check.due("loser() of equal ones", x.loser(2), 0);
        check.row("loser() of equal ones", x, 0, 0, 10000);
        Check.players(x, "1234");
        Check.rule(x, "100");
        check.due("loser() for certain", x.loser(2), 0);
        check.row("loser() for certain", x, 10000, 0, 0, 0, 0);
        x.move(10);
        x.move(1);
        check.due("felled", x.count(5), 1);
        check.due("loser() of a felled one", x.loser(5), 0);
        check.row("loser() of a felled one", x, 0, 0, 0, 0, 10000);
    }

    private static void losersCut() {
        FelledHasLost x = Check.on("999/999/999/999");
        Check.players(x, "3");
        Check.rule(x, "h");
        check.due("loser(3)", x.loser(3), 0);
        check.row("loser(3)", x, 300 + 291 + 282, 10000 - 873);
        Check.players(x, "90");
        Check.rule(x, "9-h");
        check.due("loser(4), the second one", x.loser(4), 1);
        check.row("loser(4)", x, 0, 900 + 819, 8281);
    }
}
