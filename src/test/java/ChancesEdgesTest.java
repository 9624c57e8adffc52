/** The boundary cases that promises 33 and 34 name, a test for each; the sentence stands above it. */
public final class ChancesEdgesTest {
    private static final Check check = new Check();
    private static final int MIN = Integer.MIN_VALUE;
    private static final int MAX = Integer.MAX_VALUE;

    public static void main(String[] args) {
        check.runAll(ChancesEdgesTest.class);
    }

    private static void chance(String tower, String rule, int n, long... row) {
        FelledHasLost x = Check.on(tower);
        Check.rule(x, rule);
        x.loose();
        check.due("chance(" + n + ") by " + rule, x.chance(n), 0);
        check.row("chance(" + n + ") of " + tower + " by " + rule, x, row);
    }

    // Promise 33: "NONE: another n."
    static void p33AnotherN() {
        FelledHasLost x = Check.on("999/999");
        x.stands();
        for (int n : new int[] {-1, 3, MIN, MAX}) {
            check.due("chance(" + n + ")", x.chance(n), -1);
        }
        check.row("what was told ahead of it", x, -1, 1710);
    }

    // "NONE for n 0"
    static void p33NoMoves() {
        chance("999/999", "50", 0, 1, 1, -1);
        chance("", "50", 0, 1, 1, -1);
        chance("9../999/999", "50", 0, 1, 1, -1);
        FelledHasLost x = Check.on("9.9/999");
        x.move(0);
        check.due("chance(0) of a felled one", x.chance(0), 0);
        check.row("chance(0) of a felled one", x, 1, 1, -1);
    }

    // "or if the chance is 0"
    static void p33TheChanceIs0() {
        chance("999/999", "100", 1, 0, 1, -1);
        chance("999/999", "100", 2, 0, 1, -1);
        chance("999/999", "999", 1, 0, 1, -1);
    }

    static void p33TheSecondChanceIs0() {
        chance("999/999/999", "100*(n=4)", 1, 1, 1, 0);
        chance("999/999/999", "100*(n=4)", 2, 0, 1, -1);
    }

    static void p33TheChanceIs1() {
        chance("999/999", "0", 1, 1, 1, 0);
        chance("999/999", "0", 2, 1, 1, 0);
        chance("999/999", "0-50", 2, 1, 1, 0);
    }

    static void p33TheLeastChances() {
        chance("999/999", "99", 1, 1, 100, 0);
        chance("999/999", "99", 2, 1, 10000, 0);
    }

    // "If there are not so many MOVES: 0 by 1."
    static void p33NotSoMany() {
        chance("", "0", 1, 0, 1, -1);
        chance("999", "0", 1, 0, 1, -1);
        chance(".9./999", "0", 1, 0, 1, -1);
        chance("9.9/999", "0", 2, 0, 1, -1);
        chance(Check.layers(16), "0", 1, 0, 1, -1);
    }

    static void p33OneAndNotTwo() {
        chance(".99/999", "0", 1, 1, 1, 20);
        chance(".99/999", "0", 2, 0, 1, -1);
    }

    // "(pulled or jerked, as is better)"
    static void p33PulledIsBetter() {
        chance("999/999", "10+j*40", 1, 9, 10, 0);
        chance("999/999", "10+j*40", 2, 81, 100, 0);
    }

    static void p33JerkedIsBetter() {
        chance("999/999", "50-j*40", 1, 9, 10, 0);
        chance("999/999", "50-j*40", 2, 81, 100, 0);
    }

    // "of as good ones the least"
    static void p33OfAsGoodOnesTheLeast() {
        chance("999/999/999", "9-(p=2)*4", 1, 19, 20, 20);
        chance("999/999/999", "9-(q=1)*4", 1, 19, 20, 1);
        chance("999/999", "9-(p=1)*8", 2, 8281, 10000, 0);
        chance("999/999", "9-(p=2)*4", 2, 1729, 2000, 0);
    }

    // "The greatest chance": the best first one leaves none
    static void p33TheBestFirstOneLeavesNone() {
        chance("999/999", "9-(p=1)*8", 1, 99, 100, 10);
        chance(".9./.9./.9./999/999", "9-(p=1)*8", 1, 99, 100, 100);
        chance(".9./.9./.9./999/999", "9-(p=1)*8", 2, 8281, 10000, 90);
    }

    // "HANDS by turns"
    static void p33HandsByTurns() {
        FelledHasLost x = Check.on("999/999/999");
        Check.players(x, "309");
        Check.rule(x, "h*10");
        x.chance(2);
        check.row("the first and the second", x, 7, 10, 0);
        x.move(0);
        x.chance(2);
        check.row("the second and the third", x, 1, 10, 21);
        x.move(21);
        x.chance(2);
        check.row("the third and the first", x, 7, 100, x.row(2));
    }

    static void p33OneHandAlone() {
        FelledHasLost x = Check.on("999/999/999");
        Check.players(x, "5");
        Check.rule(x, "h*10");
        x.chance(2);
        check.row("chance(2)", x, 1, 4, 0);
    }

    static void p33NothingChanges() {
        FelledHasLost x = Check.on("989/999/898");
        x.chance(2);
        String before = Check.state(x);
        x.chance(2);
        check.due("all behind it", Check.state(x), before);
        FelledHasLost y = Check.on(".9./.9./.9./999/999");
        y.chance(2);
        check.due("the tower", Check.told(y), ".9./.9./.9./999/999");
    }

    private static void loser(FelledHasLost x, int n, int due, long... row) {
        x.chance(0);
        check.due("loser(" + n + ")", x.loser(n), due);
        check.row("loser(" + n + ")", x, row);
    }

    // Promise 34: "n times in all (0 .. 20"
    static void p34NoTimes() {
        loser(Check.on("999/999"), 0, 0, 0, 0, 10000);
    }

    static void p34TwentyTimes() {
        FelledHasLost x = Check.on(Check.layers(9));
        Check.players(x, "000");
        Check.rule(x, "10-h-(l>4)");
        long[] shares = new long[4];
        shares[3] = 10000;
        FelledHasLost y = Check.on(Check.layers(9));
        Check.players(y, "000");
        Check.rule(y, "10-h-(l>4)");
        for (int n = 1; n <= 20; n++) {
            int m = y.best();
            long lost = shares[3] * y.row(0) / 100;
            shares[(n - 1) % 3] += lost;
            shares[3] -= lost;
            check.due("a safe one", y.move(m), 1);
            x.loser(n);
            check.row("loser(" + n + ")", x, shares);
        }
        check.due("the one that most likely fells it", x.loser(20), 0);
    }

    // "NONE: another n."
    static void p34AnotherN() {
        FelledHasLost x = Check.on("999/999");
        x.stands();
        for (int n : new int[] {-1, 21, MIN, MAX}) {
            check.due("loser(" + n + ")", x.loser(n), -1);
        }
        check.row("what was told ahead of it", x, -1, 1710);
    }

    // "till there is no SAFE MOVE"
    static void p34TillThereIsNone() {
        FelledHasLost x = Check.on("999/999");
        Check.rule(x, "10");
        loser(x, 1, 0, 1000, 0, 9000);
        loser(x, 2, 0, 1000, 900, 8100);
        loser(x, 3, 0, 1000, 900, 8100);
        loser(x, 20, 0, 1000, 900, 8100);
    }

    static void p34ThereIsNone() {
        for (String tower : new String[] {"", "999", ".9./999", "9.9/999", Check.layers(16)}) {
            loser(Check.on(tower), 20, 0, 0, 0, 10000);
        }
    }

    // "of equal ones the first"
    static void p34OfEqualOnesTheFirst() {
        FelledHasLost x = Check.on("999/999/999");
        Check.rule(x, "50*(n=3)+100*(n=4)");
        loser(x, 2, 0, 5000, 5000, 0);
        Check.rule(x, "0");
        loser(x, 2, 0, 0, 0, 10000);
    }

    static void p34OfEqualOnesTheFirstThoughAnotherBegins() {
        FelledHasLost x = Check.on("9.9/9.9/999/999/99.");
        Check.players(x, "50");
        check.due("one that makes the highest layer full", x.move(72), 1);
        Check.rule(x, "100");
        loser(x, 2, 1, 0, 10000, 0);
        Check.rule(x, "50+(n=6)*(h=5)*50");
        loser(x, 2, 0, 5000, 5000, 0);
    }

    // "(in hundredths of hundredths: each ODDS of what is left, cut, out of 10000 at first)"
    static void p34Cut() {
        FelledHasLost x = Check.on(Check.layers(4));
        Check.players(x, "1");
        loser(x, 3, 0, 100 + 99 + 98, 10000 - 297);
        Check.rule(x, "33");
        loser(x, 3, 0, 3300 + 2211 + 1481, 3008);
    }

    static void p34NothingIsLeft() {
        FelledHasLost x = Check.on(Check.layers(4));
        Check.rule(x, "100");
        loser(x, 5, 0, 10000, 0, 0);
    }

    // "by turns": from who is to MOVE on, and around
    static void p34ByTurnsAround() {
        FelledHasLost x = Check.on(Check.layers(4));
        Check.players(x, "123");
        Check.rule(x, "h*10");
        x.move(0);
        loser(x, 1, 1, 0, 2000, 0, 8000);
        loser(x, 2, 2, 0, 2000, 2400, 5600);
        loser(x, 3, 2, 560, 2000, 2400, 5040);
        loser(x, 4, 1, 560, 3008, 2400, 4032);
    }

    // "the ROW: of all PLAYERS how much, what is left"
    static void p34OneToFourPlayers() {
        String[] hands = {"1", "11", "111", "1111"};
        for (String hand : hands) {
            FelledHasLost x = Check.on(Check.layers(4));
            Check.players(x, hand);
            x.loser(1);
            check.due("numbers for " + hand, x.count(11), hand.length() + 1);
            check.due("the first", x.row(0), 100);
            check.due("what is left", x.row(hand.length()), 9900);
        }
    }

    // "each MOVING as best() tells"
    static void p34AsBestTells() {
        FelledHasLost x = Check.on("999/999/999");
        Check.rule(x, "50-j*20-(p=1)*(l=1)*20");
        loser(x, 1, 0, 1000, 0, 9000);
        loser(x, 2, 1, 1000, 2700, 6300);
    }

    static void p34NothingChanges() {
        FelledHasLost x = Check.on("989/999/898");
        x.loser(5);
        String before = Check.state(x);
        x.loser(5);
        check.due("all behind it", Check.state(x), before);
    }
}
