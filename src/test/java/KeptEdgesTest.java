/** The boundary cases that promises 42 to 45 name, a test for each; the sentence stands above it. */
public final class KeptEdgesTest {
    private static final Check check = new Check();
    private static final int MIN = Integer.MIN_VALUE;
    private static final int MAX = Integer.MAX_VALUE;

    public static void main(String[] args) {
        check.runAll(KeptEdgesTest.class);
    }

    // Promise 42: "kept under a number 0 .. 2: true"
    static void p42Numbers0To2() {
        FelledHasLost x = Check.on("111");
        String[] towers = {"222", "333/444", ""};
        for (int i = 0; i < 3; i++) {
            Check.tower(x, towers[i]);
            check.due("keep(" + i + ")", x.keep(i), true);
        }
        for (int i = 2; i >= 0; i--) {
            check.due("again(" + i + ")", x.again(i), true);
            check.due("the tower", Check.told(x), towers[i]);
        }
    }

    // "Refused: others."
    static void p42OtherNumbers() {
        FelledHasLost x = Check.on("999");
        for (int i : new int[] {-1, 3, MIN, MAX}) {
            check.due("keep(" + i + ")", x.keep(i), false);
        }
        for (int i = 0; i < 3; i++) {
            check.due("nothing is kept under " + i, x.again(i), false);
        }
    }

    static void p42ALaterOneTakesItsPlace() {
        FelledHasLost x = Check.on("111/222/333");
        x.keep(1);
        Check.tower(x, "444");
        x.keep(1);
        Check.tower(x, "555/666");
        check.due("again(1)", x.again(1), true);
        check.due("the tower", Check.told(x), "444");
        check.due("the weight of all", x.lean(0) * 1000 + x.row(0), 42);
    }

    static void p42NothingElseChanges() {
        FelledHasLost x = Check.on("999/999");
        x.move(0);
        x.felt(3, 1);
        x.stands();
        Check.say(x, "123");
        String before = Check.state(x);
        check.due("keep(0)", x.keep(0), true);
        check.due("all behind it", Check.state(x), before);
    }

    // "THE TOWER, who MOVES, whether it is FELLED are kept"
    static void p42AFelledOne() {
        FelledHasLost x = Check.on("9.9/999");
        x.move(0);
        x.keep(2);
        x.undo();
        check.due("felled", x.count(5), 0);
        check.due("again(2)", x.again(2), true);
        check.due("felled", x.count(5), 1);
        check.due("by", x.count(6), 0);
        check.due("to move", x.count(4), 1);
        check.due("the tower", Check.told(x), "..9/999");
        check.due("no move can be", x.move(20), -2);
    }

    static void p42OneThatIsNotFelled() {
        FelledHasLost x = Check.on("9.9/999/999");
        x.keep(0);
        x.move(0);
        check.due("felled", x.count(5), 1);
        check.due("again(0)", x.again(0), true);
        check.due("not felled", x.count(5), 0);
        check.due("by none", x.count(6), -1);
        check.due("a move", x.move(40), 1);
    }

    // What was kept is not touched by what comes behind it.
    static void p42WhatComesBehindDoesNotMatter() {
        FelledHasLost x = Check.on("999/999");
        x.keep(0);
        x.plane(0, 1);
        x.swell(1, -3);
        x.move(10);
        for (int n = 0; n < 2; n++) {
            check.due("again(0)", x.again(0), true);
            check.due("the tower", Check.told(x), "999/999");
            check.due("W", x.layer(0, 1), 57);
            check.due("who bears", x.layer(0, 6), 7);
            check.due("the lean", x.lean(0), 0);
            check.row("the weight of all", x, 114);
            x.plane(2, 5);
        }
    }

    // Promise 43: "Refused: nothing kept."
    static void p43NothingKept() {
        FelledHasLost x = Check.on("999/999");
        x.keep(1);
        x.move(0);
        x.felt(3, 0);
        x.stands();
        String before = Check.state(x);
        for (int i : new int[] {0, 2, -1, 3, MIN, MAX}) {
            check.due("again(" + i + ")", x.again(i), false);
        }
        check.due("all behind them", Check.state(x), before);
    }

    // "(who is to MOVE by what is left when divided by PLAYERS)"
    static void p43WhoMovesByPlayers() {
        FelledHasLost x = Check.on("999/999/999/999");
        Check.players(x, "1111");
        for (int n = 0; n < 3; n++) {
            x.move(x.best());
        }
        x.keep(0);
        String[] players = {"1111", "111", "11", "1"};
        int[] due = {3, 0, 1, 0};
        for (int i = 0; i < players.length; i++) {
            Check.players(x, players[i]);
            check.due("again(0)", x.again(0), true);
            check.due("3 by " + players[i].length(), x.count(4), due[i]);
        }
    }

    static void p43MorePlayers() {
        FelledHasLost x = Check.on("999/999");
        x.move(0);
        x.keep(0);
        Check.players(x, "1111");
        x.again(0);
        check.due("1 by 4", x.count(4), 1);
        check.due("the next", x.move(21), 1);
        check.due("to move", x.count(4), 2);
    }

    // "(What was felt and known is forgotten.)"
    static void p43WhatWasFeltAndKnownIsForgotten() {
        FelledHasLost x = Check.on("999/999");
        x.keep(0);
        x.felt(0, 0);
        x.known(1, 3, 3);
        x.again(0);
        check.due("touches", x.count(10), 0);
        check.due("fits(0)", x.fits(0), 1000);
    }

    static void p43NotEvenWhatWasFeltAheadOfKeep() {
        FelledHasLost x = Check.on("999/999");
        x.felt(0, 0);
        x.known(1, 3, 3);
        x.keep(0);
        x.again(0);
        check.due("touches", x.count(10), 0);
        check.due("fits(0)", x.fits(0), 1000);
    }

    // Promise 25: "(tower(), again() forget them ..)"
    static void p43NothingCanBeUndone() {
        FelledHasLost x = Check.on("999/999");
        x.move(0);
        x.keep(0);
        x.again(0);
        check.due("to be undone", x.count(9), 0);
        check.due("undo()", x.undo(), -1);
    }

    static void p43TheRestStays() {
        FelledHasLost x = Check.on("999/999");
        x.keep(0);
        x.table(0, 4);
        x.table(1, -4);
        Check.rule(x, "42");
        Check.players(x, "1");
        x.stands();
        Check.say(x, "123");
        x.again(0);
        check.due("along", x.count(7), 4);
        check.due("across", x.count(8), -4);
        check.due("players", x.count(3), 1);
        check.due("the row", x.count(11), 2);
        check.due("the text", x.count(12), 3);
        check.due("the rule", x.odds(10, 0), 42);
        check.due("what the text told", x.tower(), 1);
    }

    // Promise 44: "-100 for another what."
    static void p44AnotherWhat() {
        FelledHasLost x = Check.on("999");
        for (int what : new int[] {-1, 13, MIN, MAX}) {
            check.due("count(" + what + ")", x.count(what), -100);
        }
    }

    // "0: LAYERS, 1: BLOCKS, 2: GAPS"
    static void p44NoLayersAndSixteen() {
        long[][] due = {{0, 0, 0}, {16, 48, 0}, {16, 16, 32}};
        String[] towers = {"", Check.layers(16), "9../".repeat(15) + "..9"};
        for (int i = 0; i < towers.length; i++) {
            FelledHasLost x = Check.on(towers[i]);
            for (int what = 0; what < 3; what++) {
                check.due("count(" + what + ") of " + towers[i], x.count(what), due[i][what]);
            }
        }
    }

    static void p44AMoveMakesGaps() {
        FelledHasLost x = Check.on("999/999");
        x.move(10);
        check.due("layers", x.count(0), 3);
        check.due("blocks", x.count(1), 6);
        check.due("gaps", x.count(2), 3);
    }

    // "6: who felled it (NONE)"
    static void p44WhoFelledIt() {
        FelledHasLost x = Check.on("999/999/999");
        Check.players(x, "1111");
        check.due("nobody", x.count(6), -1);
        Check.play(x, "0l>l;0r>m;1m>r;0m>l");
        check.due("felled", x.count(5), 1);
        check.due("the last of four", x.count(6), 3);
        check.due("to move", x.count(4), 0);
        x.undo();
        check.due("nobody when it is undone", x.count(6), -1);
    }

    // "9: what can be undone"
    static void p44WhatCanBeUndone() {
        FelledHasLost x = Check.on(Check.layers(9));
        for (int n = 1; n <= 17; n++) {
            x.move(x.best());
            check.due("count(9)", x.count(9), Math.min(15, n));
        }
    }

    // "11: numbers of the ROW"
    static void p44NumbersOfTheRow() {
        FelledHasLost x = Check.on(Check.layers(16));
        check.due("at first", x.count(11), 0);
        x.loose();
        check.due("of sixteen layers", x.count(11), 16);
        x.lean(0);
        check.due("one", x.count(11), 1);
        x.why();
        check.due("none", x.count(11), 0);
    }

    // "12: signs of THE TEXT"
    static void p44SignsOfTheText() {
        FelledHasLost x = new FelledHasLost();
        check.due("at first", x.count(12), 0);
        for (int n = 1; n <= 21; n++) {
            x.sign(0);
            check.due("count(12)", x.count(12), Math.min(80, 4 * n));
        }
        x.end(3);
        check.due("count(12)", x.count(12), 3);
    }

    // Promise 45: "NoSuchElementException: none such."
    static void p45NoneSuch() {
        FelledHasLost x = Check.on("191/999");
        x.loose();
        check.due("row(0)", x.row(0), 5);
        check.due("row(1)", x.row(1), 0);
        for (int i : new int[] {-1, 2, 15, 16, 17, MIN, MAX}) {
            check.none("row(" + i + ")", () -> x.row(i));
        }
    }

    static void p45AnEmptyRow() {
        FelledHasLost x = new FelledHasLost();
        check.none("row(0) at first", () -> x.row(0));
        x.stands();
        x.why();
        check.none("row(0) of an empty one", () -> x.row(0));
        check.none("row(-1) of an empty one", () -> x.row(-1));
    }

    static void p45TheLongestRow() {
        FelledHasLost x = Check.on("191/".repeat(15) + "989");
        x.loose();
        check.due("row(0)", x.row(0), 5);
        check.due("row(15)", x.row(15), 2);
        check.none("row(16)", () -> x.row(16));
    }

    // Terms: "ROW: numbers told last by a call that says so."
    static void p45AShorterRowTakesThePlaceOfALonger() {
        FelledHasLost x = Check.on("191/191/999/999");
        x.loose();
        check.due("numbers", x.count(11), 4);
        x.weakest();
        check.due("numbers", x.count(11), 1);
        check.none("row(1)", () -> x.row(1));
    }

    static void p45CallsThatTellNoneLeaveIt() {
        FelledHasLost x = Check.on("999/999");
        x.stands();
        x.block(0, 4);
        x.layer(0, 3);
        x.plane(0, 9);
        x.table(0, 0);
        x.swell(0, 0);
        x.sheet(2, 6, 9, 0);
        x.move(10);
        x.undo();
        x.felt(0, 1);
        x.known(0, 0, 9);
        x.forget();
        x.span(0);
        x.keep(0);
        x.again(0);
        x.count(0);
        x.bump(0);
        Check.rule(x, "7");
        Check.players(x, "1");
        Check.tower(x, "999");
        check.row("stands() ahead of them", x, -1, 1710);
    }
}
