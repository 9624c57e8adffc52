/** The boundary cases that promises 18 to 26 name, and those of FELLED, a test for each; the sentence stands above it. */
public final class MovesEdgesTest {
    private static final Check check = new Check();
    private static final int MIN = Integer.MIN_VALUE;
    private static final int MAX = Integer.MAX_VALUE;

    public static void main(String[] args) {
        check.runAll(MovesEdgesTest.class);
    }

    private static void moves(FelledHasLost x, int due, long... row) {
        x.loose();
        check.due("moves()", x.moves(), due);
        check.row("moves()", x, row);
    }

    // Promise 18: "(0 of the first two: NONE)"
    static void p18NoneIsSafe() {
        moves(new FelledHasLost(), 0, -1, -1, 0);
        moves(Check.on("999"), 0, -1, -1, 0);
        moves(Check.on("999/99."), 0, -1, -1, 0);
        moves(Check.on(".9./999"), 0, -1, -1, 3);
        moves(Check.on("9.9/999"), 0, -1, -1, 6);
    }

    // "the first (of those rising), the last"
    static void p18OneIsSafe() {
        moves(Check.on(".99/999/99."), 1, 22, 22, 2);
    }

    static void p18OnTheEdge() {
        moves(Check.on("9.9/999", 6, 0), 3, 0, 2, 6);
        moves(Check.on("9.9/999", 5, 0), 2, 1, 2, 6);
        moves(Check.on("9.9/999", 4, 0), 0, -1, -1, 6);
    }

    // "how many CAN be"
    static void p18SixteenLayers() {
        moves(Check.on(Check.layers(16)), 0, -1, -1, 0);
        moves(Check.on(Check.layers(15) + "/99."), 42, 2, 412, 42);
        moves(Check.on(Check.layers(15) + "/9.."), 84, 1, 412, 84);
        moves(Check.on(Check.layers(15)), 126, 0, 412, 126);
    }

    static void p18AskedTwice() {
        FelledHasLost x = Check.on("9.9/999", 6, 0);
        moves(x, 3, 0, 2, 6);
        moves(x, 3, 0, 2, 6);
    }

    // Promise 19: "jerked (1) or not (0)"
    static void p19JerkedOrNot() {
        FelledHasLost x = Check.on("999/999");
        Check.rule(x, "20+j");
        check.due("pulled", x.odds(0, 0), 20);
        check.due("jerked", x.odds(0, 1), 21);
    }

    // "the ROW: 1 if it is SAFE, else 0"
    static void p19SafeOrNot() {
        FelledHasLost x = Check.on("9.9/999", 5, 0);
        x.stands();
        check.due("not safe", x.odds(0, 0), 100);
        check.row("not safe", x, 0);
        x.stands();
        check.due("safe", x.odds(1, 0), 1);
        check.row("safe", x, 1);
        Check.rule(x, "100");
        check.due("safe by 100", x.odds(1, 0), 100);
        check.row("safe by 100", x, 1);
    }

    // "-2: it CANNOT be"
    static void p19ItCannotBe() {
        FelledHasLost x = Check.on("999/999/9.9");
        x.stands();
        for (int m : new int[] {0, 2, 13, 30, 31, 61, 71, 91, 480, -1, -9, -10, MIN, MAX}) {
            check.due("odds(" + m + ", 0)", x.odds(m, 0), -2);
            check.due("odds(" + m + ", 1)", x.odds(m, 1), -2);
        }
        check.row("what was told ahead of it", x, -1, 1140);
    }

    // "NONE: another jerk"
    static void p19AnotherJerk() {
        FelledHasLost x = Check.on("999/999");
        x.stands();
        for (int jerk : new int[] {-1, 2, MIN, MAX}) {
            check.due("odds(0, " + jerk + ")", x.odds(0, jerk), -1);
            check.due("odds(-1, " + jerk + ")", x.odds(-1, jerk), -1);
        }
        check.row("what was told ahead of it", x, -1, 1710);
    }

    // "by who is to MOVE"
    static void p19ByWhoIsToMove() {
        FelledHasLost x = Check.on("999/999/999/999/999");
        Check.players(x, "2468");
        for (int turn = 0; turn < 6; turn++) {
            int m = x.best();
            check.due("turn " + turn, x.odds(m, 0), 2 + 2 * (turn % 4));
            x.move(m);
        }
    }

    private static void best(String tower, String rule, int due, long odds, long jerk) {
        FelledHasLost x = Check.on(tower);
        Check.rule(x, rule);
        x.loose();
        check.due("best() by " + rule, x.best(), due);
        check.row("best() by " + rule, x, odds, jerk);
    }

    // Promise 20: "The SAFE MOVE with the least ODDS, pulled or jerked"
    static void p20TheLeastOddsPulledOrJerked() {
        best("999/999/999", "9-p-j", 20, 6, 1);
        best("999/999/999", "9-p+j", 20, 7, 0);
        best("999/999/999", "50-l*10-q", 32, 38, 0);
    }

    // "of equal ones pulled first": a lesser one that is jerked does not matter
    static void p20OfEqualOnesPulledFirst() {
        best("999/999/999", "5", 0, 5, 0);
        best("999/999/999", "5+(p=j)", 10, 5, 0);
        best("999/999/999", "9-(p=0)*j-(p=2)*(1-j)", 20, 8, 0);
    }

    // "then the least"
    static void p20ThenTheLeast() {
        best("999/999/999", "9-(p=2)", 20, 8, 0);
        best("999/999/999", "9-(q=2)", 2, 8, 0);
        best("999/999/999", "9-j*(l=1)", 30, 8, 1);
    }

    static void p20OddsOf0And100() {
        best("999/999/999", "0", 0, 0, 0);
        best("999/999/999", "100", 0, 100, 0);
        best("999/999/999", "100-(l=1)*(q=1)", 31, 99, 0);
    }

    static void p20OneThatIsNotSafeIsNotTaken() {
        FelledHasLost x = Check.on("9.9/999", 5, 0);
        Check.rule(x, "q*20");
        check.due("best()", x.best(), 1);
        check.row("best()", x, 20, 0);
    }

    // "-2: none is SAFE."
    static void p20NoneIsSafe() {
        for (String tower : new String[] {"", "999", ".9./999", "9.9/999", Check.layers(16)}) {
            FelledHasLost x = Check.on(tower);
            x.lean(0);
            long before = x.row(0);
            check.due("best() of " + tower, x.best(), -2);
            check.row("what was told ahead of it", x, before);
        }
    }

    // Promise 21: "The SAFE MOVE that leaves the fewest SAFE MOVES to the next one"
    static void p21TheFewest() {
        FelledHasLost x = Check.on("999/999");
        Check.rule(x, "9-(p=0)*9");
        x.loose();
        check.due("leave(): none, though others have less odds", x.leave(), 10);
        check.row("leave()", x, 0, 9);
    }

    // "of as few the one with the least ODDS pulled"
    static void p21OfAsFewTheLeastOdds() {
        FelledHasLost x = Check.on("999/999");
        Check.rule(x, "9-q");
        check.due("leave()", x.leave(), 12);
        check.row("leave()", x, 0, 7);
        Check.rule(x, "9-q*j");
        check.due("jerked does not matter", x.leave(), 10);
        check.row("jerked does not matter", x, 0, 9);
    }

    // "then the least"
    static void p21ThenTheLeast() {
        FelledHasLost x = Check.on("999/999");
        Check.rule(x, "9-(q=1)-(q=2)");
        check.due("leave()", x.leave(), 11);
        check.row("leave()", x, 0, 8);
        FelledHasLost y = Check.on("99./999");
        check.due("the least of all", y.leave(), 0);
        check.row("the least of all", y, 0, 1);
    }

    // "-2: none is SAFE."
    static void p21NoneIsSafe() {
        for (String tower : new String[] {"", "999", ".9./999", "9.9/999", Check.layers(16)}) {
            FelledHasLost x = Check.on(tower);
            x.lean(0);
            long before = x.row(0);
            check.due("leave() of " + tower, x.leave(), -2);
            check.row("what was told ahead of it", x, before);
        }
    }

    static void p21OfHigherLayers() {
        FelledHasLost x = Check.on(".9./.9./.9./999/999");
        check.due("leave()", x.leave(), 100);
        check.row("leave()", x, 0, 1);
        check.due("the tower", Check.told(x), ".9./.9./.9./999/999");
    }

    static void p21NothingChanges() {
        FelledHasLost x = Check.on("989/999/898");
        x.leave();
        String before = Check.state(x);
        x.leave();
        check.due("all behind it", Check.state(x), before);
    }

    // Promise 22: "leaves the least MARGIN of all LAYERS below the highest the greatest"
    static void p22TheGreatest() {
        FelledHasLost x = Check.on("9.9/999", 6, 0);
        x.stands();
        check.due("where(0)", x.where(0), 2);
        check.row("where(0)", x, 570);
    }

    // "of those so that the MOVE is SAFE"
    static void p22OfThoseThatAreSafe() {
        FelledHasLost x = Check.on(".99/999/.99");
        check.due("the only gap", x.where(2), 0);
        FelledHasLost y = Check.on("998/.0./.0.", -1, 0);
        check.due("the only one that stands", y.where(0), 2);
    }

    // "of equal ones the first"
    static void p22OfEqualOnesTheFirst() {
        FelledHasLost x = Check.on("999/999");
        check.due("where(0): 380, 570, 570", x.where(0), 1);
        check.row("where(0)", x, 570);
        check.due("where(1): 570 each", x.where(1), 0);
        check.row("where(1)", x, 570);
    }

    static void p22OnTheEdge() {
        FelledHasLost x = Check.on("9.9/999/.99", 0, 0);
        check.due("none is safe", x.where(0), -2);
        FelledHasLost y = Check.on(".9./.0./.00", 5, 0);
        check.due("the last of its layer", y.where(1), -2);
    }

    // "-2: none is SAFE"
    static void p22NoneIsSafe() {
        FelledHasLost x = Check.on("9.9/999/999");
        x.lean(0);
        for (int b : new int[] {0, 2, 6, 7, 8}) {
            check.due("where(" + b + ")", x.where(b), -2);
        }
        check.row("what was told ahead of it", x, 152);
        check.due("16 layers", Check.on(Check.layers(16)).where(1), -2);
    }

    // "NONE: none there"
    static void p22NoneThere() {
        FelledHasLost x = Check.on("9.9/999");
        x.lean(0);
        for (int b : new int[] {-1, 1, 6, 47, 48, MIN, MAX}) {
            check.due("where(" + b + ")", x.where(b), -1);
        }
        check.row("what was told ahead of it", x, 95);
        check.due("of no layers", new FelledHasLost().where(0), -1);
    }

    // Promise 23: "1: it was SAFE, the next one is to MOVE"
    static void p23TheNextOneWrapsAround() {
        FelledHasLost x = Check.on("999/999/999/999");
        Check.players(x, "123");
        int[] due = {1, 2, 0, 1};
        for (int turn = 0; turn < 4; turn++) {
            check.due("move", x.move(x.best()), 1);
            check.due("to move", x.count(4), due[turn]);
        }
    }

    static void p23OneAlone() {
        FelledHasLost x = Check.on("999/999");
        Check.players(x, "1");
        check.due("move(0)", x.move(0), 1);
        check.due("to move", x.count(4), 0);
    }

    // "0: THE TOWER is FELLED by who MOVED"
    static void p23FelledByWhoMoved() {
        FelledHasLost x = Check.on("999/999/999");
        Check.players(x, "123");
        x.move(0);
        check.due("move(11)", x.move(11), 0);
        check.due("felled", x.count(5), 1);
        check.due("by", x.count(6), 1);
        check.due("to move", x.count(4), 2);
    }

    // "-2: it CANNOT be"
    static void p23ItCannotBe() {
        FelledHasLost x = Check.on("9.9/999/9..");
        String before = Check.state(x);
        for (int m : new int[] {0, 11, 20, 3, 30, 31, 61, 62, 90, 480, -1, -10, MIN, MAX}) {
            check.due("move(" + m + ")", x.move(m), -2);
        }
        check.due("all behind them", Check.state(x), before);
    }

    // "or THE TOWER is FELLED"
    static void p23ItIsFelled() {
        FelledHasLost x = Check.on(".9./999/999");
        check.due("it can be", x.odds(40, 0), 1);
        x.move(10);
        String before = Check.state(x);
        check.due("move(40)", x.move(40), -2);
        check.due("all behind it", Check.state(x), before);
    }

    private static void playAt(String text, int at) {
        FelledHasLost x = Check.on("999/999");
        x.stands();
        String before = Check.state(x);
        check.due("play " + text, Check.play(x, text), -1 - at);
        check.due("nothing is done, all behind it", Check.state(x), before);
    }

    private static void play(FelledHasLost x, String text, int due, long cannot, long felled) {
        x.loose();
        check.due("play " + text, Check.play(x, text), due);
        check.row("play " + text, x, cannot, felled);
        check.due("the text behind it", x.count(12), 0);
    }

    // Promise 24: "THE TEXT tells MOVES (an empty one: none)"
    static void p24AnEmptyText() {
        FelledHasLost x = Check.on("999/999");
        play(x, "", 0, 0, 0);
        check.due("to be undone", x.count(9), 0);
    }

    static void p24AnEmptyTextBehindAnother() {
        FelledHasLost x = Check.on("999/999/999");
        play(x, "0l>l;0r>m", 2, 0, 0);
        play(x, "", 0, 0, 0);
        play(x, "1m>r", 1, 0, 0);
        check.due("the tower", Check.told(x), ".9./9.9/999/999");
    }

    // "a LAYER (1 or 2 digits)"
    static void p24LayersOfOneDigitAndOfTwo() {
        String[] texts = {"0m>l", "00m>l", "09m>l", "9m>l", "10m>l", "13m>l", "13l>l", "13r>r", "2l>m"};
        int[] blocks = {1, 1, 28, 28, 31, 40, 39, 41, 6};
        for (int i = 0; i < texts.length; i++) {
            FelledHasLost x = Check.on(Check.layers(15));
            play(x, texts[i], 1, 0, 0);
            check.none("the block of " + texts[i], blockOf(x, blocks[i]));
            check.due("layers", x.count(0), 16);
            check.due("blocks", x.count(1), 45);
        }
    }

    private static Check.Call blockOf(FelledHasLost x, int b) {
        return () -> x.block(b, 0);
    }

    static void p24LayersOfThreeDigitsCannotBe() {
        playAt("000m>l", 2);
        playAt("0l>l;123l>l", 7);
    }

    static void p24LayersThatAreNotThere() {
        for (String text : new String[] {"2l>l", "16l>l", "15m>m", "99r>r"}) {
            FelledHasLost x = Check.on("999/999");
            play(x, text, 0, 1, 0);
            check.due("to be undone", x.count(9), 0);
        }
    }

    // "l, m or r (PLACE 0, 1, 2), >, l, m or r"
    static void p24Places() {
        String[] texts = {"1l>l", "1l>m", "1l>r", "1m>l", "1m>m", "1m>r", "1r>l", "1r>m", "1r>r"};
        String[] towers = {".76/999/8..", ".76/999/.8.", ".76/999/..8", "8.6/999/7..", "8.6/999/.7.", "8.6/999/..7",
            "87./999/6..", "87./999/.6.", "87./999/..6"};
        for (int i = 0; i < texts.length; i++) {
            FelledHasLost x = Check.on("999/876/999");
            play(x, texts[i], 1, 0, 0);
            check.due("the tower behind " + texts[i], Check.told(x), "999/" + towers[i]);
        }
    }

    // "-1 - p: the sign at p can't stand there"
    static void p24SignsThatCannotStand() {
        playAt("x", 0);
        playAt("l>l", 0);
        playAt(">", 0);
        playAt(";", 0);
        playAt("0x", 1);
        playAt("0>l", 1);
        playAt("0;", 1);
        playAt("00x", 2);
        playAt("0lx", 2);
        playAt("0ll", 2);
        playAt("0l0", 2);
        playAt("0l;", 2);
        playAt("0l>x", 3);
        playAt("0l>0", 3);
        playAt("0l>>", 3);
        playAt("0l>l0", 4);
        playAt("0l>lx", 4);
        playAt("0l>l,", 4);
        playAt("0l>l;;", 5);
        playAt("0l>l;l", 5);
        playAt("0L>l", 1);
        playAt("0l>l;0m>m;x", 10);
    }

    // "(its end, if it ends too early"
    static void p24ItEndsTooEarly() {
        playAt("0", 1);
        playAt("00", 2);
        playAt("0l", 2);
        playAt("0l>", 3);
        playAt("0l>l;", 5);
        playAt("0l>l;0", 6);
        playAt("0l>l;0m", 7);
        playAt("0l>l;0m>", 8);
    }

    // "70, if it has more and the first 70 could go on or end)"
    static void p24SeventySigns() {
        String seventy = "00l>l" + ";0l>l".repeat(13);
        FelledHasLost x = Check.on("999/999");
        play(x, seventy, 1, 1, 0);
        check.due("the first one was done", Check.told(x), ".99/999/9..");
    }

    static void p24TheFirst70CouldEnd() {
        String seventy = "00l>l" + ";0l>l".repeat(13);
        playAt(seventy + ";", 70);
        playAt(seventy + "x", 70);
        playAt(seventy + ";0l>l", 70);
    }

    static void p24TheFirst70CouldGoOn() {
        playAt("0l>l;".repeat(14) + "0", 70);
        playAt("0l>l;".repeat(14) + "x", 70);
        playAt("00l>l;00l>l" + ";0l>l".repeat(11) + ";0l>l", 70);
        playAt("00l>l;00l>l;00l>l" + ";0l>l".repeat(11), 70);
    }

    static void p24TheFirst70EndTooEarly() {
        playAt("0l>l;".repeat(14), 70);
        playAt("00l>l;00l>l;00l>l" + ";0l>l".repeat(10) + ";0l", 70);
    }

    static void p24AWrongOneOfTheFirst70() {
        playAt("x" + "0l>l;".repeat(15), 0);
        playAt("0l>l;".repeat(13) + "0l>l0;", 69);
        playAt("0l>l;".repeat(13) + "00l>x;", 69);
    }

    // "till one CANNOT be"
    static void p24OneCannotBe() {
        FelledHasLost x = Check.on("999/999/999");
        play(x, "0l>l;2l>m;0r>m", 1, 1, 0);
        check.due("the tower", Check.told(x), ".99/999/999/9..");
        check.due("to move", x.count(4), 1);
        check.due("to be undone", x.count(9), 1);
        FelledHasLost y = Check.on("999/999/999");
        play(y, "2l>m;0l>l", 0, 1, 0);
        check.due("the tower stays", Check.told(y), "999/999/999");
        check.due("nothing to be undone", y.count(9), 0);
    }

    // "or THE TOWER is FELLED: how many were done (that by which it is FELLED, too)"
    static void p24Felled() {
        FelledHasLost x = Check.on("999/999/999");
        play(x, "0l>l;0m>m", 2, 0, 1);
        check.due("by", x.count(6), 1);
        check.due("to move", x.count(4), 0);
        check.due("why()", x.why(), 2);
    }

    // "those behind the MOVE by which it is FELLED are not asked"
    static void p24ThoseBehindTheFallAreNotAsked() {
        FelledHasLost x = Check.on("999/999/999");
        play(x, "0l>l;0m>m;9l>l", 2, 0, 1);
        check.due("to be undone", x.undo(), 0);
        check.due("the tower", Check.told(x), "999/999/999");
    }

    // "if it is FELLED already, the first one CANNOT be"
    static void p24FelledAlready() {
        FelledHasLost x = Check.on(".9./999/999");
        x.move(10);
        play(x, "1l>l", 0, 1, 1);
        check.due("the tower", Check.told(x), ".9./999/999");
        check.due("to be undone", x.count(9), 1);
    }

    static void p24FelledAlreadyAndAnEmptyText() {
        FelledHasLost x = Check.on(".9./999/999");
        x.move(10);
        play(x, "", 0, 0, 1);
    }

    static void p24FelledAlreadyAndAWrongText() {
        FelledHasLost x = Check.on(".9./999/999");
        x.move(10);
        x.stands();
        String before = Check.state(x);
        check.due("play x", Check.play(x, "x"), -1);
        check.due("all behind it", Check.state(x), before);
    }

    // Promise 25: "Refused: none."
    static void p25None() {
        FelledHasLost x = Check.on("999/999");
        check.due("at first", x.undo(), -1);
        x.move(0);
        check.due("one", x.undo(), 0);
        check.due("no more", x.undo(), -1);
        check.due("the tower", Check.told(x), "999/999");
    }

    // "(of 15 that are kept, the latest ones"
    static void p25FifteenAreKept() {
        FelledHasLost x = Check.on(Check.layers(10));
        for (int n = 1; n <= 15; n++) {
            x.move(x.best());
            check.due("to be undone", x.count(9), n);
        }
        for (int n = 14; n >= 0; n--) {
            check.due("undo()", x.undo(), n);
        }
        check.due("no more", x.undo(), -1);
        check.due("the tower", Check.told(x), Check.layers(10));
    }

    static void p25TheSixteenthPushesTheFirstOut() {
        FelledHasLost x = Check.on(Check.layers(10));
        x.move(10);
        String first = Check.told(x);
        for (int n = 2; n <= 16; n++) {
            x.move(x.best());
        }
        check.due("to be undone", x.count(9), 15);
        for (int n = 14; n >= 0; n--) {
            check.due("undo()", x.undo(), n);
        }
        check.due("the tower", Check.told(x), first);
        check.due("no more", x.undo(), -1);
        check.due("to move", x.count(4), 1);
    }

    // "such by which something was done"
    static void p25ThoseByWhichNothingWasDone() {
        FelledHasLost x = Check.on("999/999/999");
        x.move(0);
        x.move(0);
        Check.play(x, "");
        Check.play(x, "2l>l");
        Check.play(x, "x");
        check.due("to be undone", x.count(9), 1);
        check.due("undo()", x.undo(), 0);
        check.due("the tower", Check.told(x), "999/999/999");
    }

    // "play() as one)"
    static void p25PlayAsOne() {
        FelledHasLost x = Check.on("999/999/999");
        Check.play(x, "0l>l;0r>m;1m>r");
        check.due("to be undone", x.count(9), 1);
        check.due("to move", x.count(4), 1);
        check.due("undo()", x.undo(), 0);
        check.due("the tower", Check.told(x), "999/999/999");
        check.due("to move", x.count(4), 0);
    }

    static void p25PlayThatStoppedAsOne() {
        FelledHasLost x = Check.on("999/999/999");
        Check.play(x, "0l>l;0r>m;9m>r");
        check.due("to be undone", x.count(9), 1);
        check.due("undo()", x.undo(), 0);
        check.due("the tower", Check.told(x), "999/999/999");
    }

    // "who MOVES, by what is left when divided by PLAYERS"
    static void p25WhoMovesByPlayers() {
        FelledHasLost x = Check.on("999/999/999/999");
        Check.players(x, "1111");
        for (int n = 0; n < 4; n++) {
            x.move(x.best());
        }
        Check.players(x, "111");
        x.undo();
        check.due("3 by 3", x.count(4), 0);
        x.undo();
        check.due("2 by 3", x.count(4), 2);
        Check.players(x, "1");
        x.undo();
        check.due("1 by 1", x.count(4), 0);
    }

    // "whether it is FELLED are as ahead of it"
    static void p25AFelledOne() {
        FelledHasLost x = Check.on("9.9/999");
        x.move(0);
        check.due("undo()", x.undo(), 0);
        check.due("felled", x.count(5), 0);
        check.due("by", x.count(6), -1);
        check.due("to move", x.count(4), 0);
        check.due("the tower", Check.told(x), "9.9/999");
        check.due("why()", x.why(), 0);
    }

    // "what was planed, swollen is undone, too"
    static void p25WhatWasPlanedAndSwollen() {
        FelledHasLost x = Check.on("999/999/999");
        x.plane(6, 7);
        x.move(10);
        x.plane(6, 1);
        x.swell(1, -4);
        x.undo();
        check.due("what was planed behind it", Check.told(x), "999/999/799");
        x.move(10);
        x.sheet(2, 9, 3, 0);
        x.undo();
        check.due("what a sheet told behind it", Check.told(x), "999/999/799");
        check.due("W", x.layer(1, 1), 55);
        check.due("who bears", x.layer(2, 6), 6);
        check.due("the lean", x.lean(0), 2);
    }

    static void p25TheTableIsNotUndone() {
        FelledHasLost x = Check.on("999/999");
        x.move(10);
        x.table(0, 3);
        x.undo();
        check.due("along", x.count(7), 3);
    }

    // "(tower(), again() forget them, if they are not refused.)"
    static void p25TowerForgetsThem() {
        FelledHasLost x = Check.on("999/999");
        x.move(10);
        Check.tower(x, "999/999");
        check.due("undo()", x.undo(), -1);
        x.move(10);
        Check.tower(x, "99");
        check.due("a refused one does not", x.undo(), 0);
    }

    static void p25AgainForgetsThem() {
        FelledHasLost x = Check.on("999/999");
        x.keep(0);
        x.move(10);
        x.again(0);
        check.due("undo()", x.undo(), -1);
        x.move(10);
        check.due("again(1)", x.again(1), false);
        check.due("a refused one does not", x.undo(), 0);
    }

    static void p25ForgottenOnesDoNotComeBack() {
        FelledHasLost x = Check.on("999/999/999");
        x.move(10);
        x.move(41);
        Check.tower(x, "888/888");
        x.move(10);
        check.due("undo()", x.undo(), 0);
        check.due("the tower", Check.told(x), "888/888");
        check.due("undo()", x.undo(), -1);
    }

    // Promise 26: "0: it is not FELLED (the ROW is empty)."
    static void p26NotFelled() {
        FelledHasLost x = Check.on("9../999/999");
        x.stands();
        check.due("why() of one that does not stand", x.why(), 0);
        check.row("why()", x);
    }

    // "1: the last BLOCK of a LAYER was DRAWN" and "(for 1: that LAYER), its MARGIN (0 for 1)"
    static void p26TheLastBlock() {
        FelledHasLost x = Check.on("999/..9/999");
        x.moves();
        check.due("move(50)", x.move(50), 0);
        check.due("why()", x.why(), 1);
        check.row("why()", x, 1, 0);
    }

    // "2: it did not STAND when it was DRAWN"
    static void p26WhenDrawn() {
        FelledHasLost x = Check.on("9.9/999", 4, 0);
        x.moves();
        x.move(2);
        check.due("why()", x.why(), 2);
        check.row("why()", x, 0, -114);
    }

    // "3: when it was LAID"
    static void p26WhenLaid() {
        FelledHasLost x = Check.on("9.9/999", 5, 0);
        x.moves();
        x.move(0);
        check.due("why()", x.why(), 3);
        check.row("why()", x, 0, -190);
    }

    // "the first LAYER that gave way": the second is worse
    static void p26TheFirstOfTwo() {
        FelledHasLost x = Check.on("9../9.9/999", -2, 0);
        check.due("move(50)", x.move(50), 0);
        check.due("why()", x.why(), 2);
        check.row("why()", x, 0, -228);
        x.stands();
        check.row("stands()", x, 0, -570);
    }

    static void p26AnotherLayerThanItsOwn() {
        FelledHasLost x = Check.on(".0./.0./909/000", 2, 0);
        check.due("it stands ahead of it", x.stands(), 1);
        check.due("move(60)", x.move(60), 0);
        check.due("why()", x.why(), 2);
        check.row("why()", x, 0, -322);
    }

    static void p26AsItWasWhenItFell() {
        FelledHasLost x = Check.on("9.9/999");
        x.move(0);
        x.table(0, 9);
        x.plane(3, 0);
        check.due("why()", x.why(), 2);
        check.row("why()", x, 0, -570);
    }

    static void p26KeptAndCameAgain() {
        FelledHasLost x = Check.on("9.9/999/999");
        x.move(0);
        x.keep(0);
        Check.tower(x, "999/..9/999");
        x.move(50);
        check.due("why()", x.why(), 1);
        x.again(0);
        check.due("why() of the one that was kept", x.why(), 2);
        check.row("why() of the one that was kept", x, 0, -1140);
    }

    // Terms: "nothing can MOVE then, till it is told anew or undone"
    private static FelledHasLost felled() {
        FelledHasLost x = Check.on(".9./999/999");
        x.move(10);
        x.lean(0);
        return x;
    }

    static void felledNothingCanMove() {
        FelledHasLost x = felled();
        check.due("move(40)", x.move(40), -2);
        x.undo();
        check.due("undone", x.move(40), 1);
    }

    // "moves() 0"
    static void felledMoves() {
        moves(felled(), 0, -1, -1, 0);
    }

    // "odds(), best(), leave(), where() -2"
    static void felledOdds() {
        FelledHasLost x = felled();
        check.due("odds(40, 0)", x.odds(40, 0), -2);
        check.due("odds(40, 1)", x.odds(40, 1), -2);
        check.due("odds(10, 0)", x.odds(10, 0), -2);
        check.due("odds(40, 2)", x.odds(40, 2), -1);
        check.row("what was told ahead of it", x, 133);
    }

    static void felledBest() {
        FelledHasLost x = felled();
        check.due("best()", x.best(), -2);
        check.row("what was told ahead of it", x, 133);
    }

    static void felledLeave() {
        FelledHasLost x = felled();
        check.due("leave()", x.leave(), -2);
        check.row("what was told ahead of it", x, 133);
    }

    static void felledWhere() {
        FelledHasLost x = felled();
        check.due("where(4)", x.where(4), -2);
        check.due("where() of none", x.where(0), -1);
        check.row("what was told ahead of it", x, 133);
    }

    // "chance() of 1 or 2 0 by 1"
    static void felledChance() {
        FelledHasLost x = felled();
        check.due("chance(1)", x.chance(1), 0);
        check.row("chance(1)", x, 0, 1, -1);
        x.stands();
        check.due("chance(2)", x.chance(2), 0);
        check.row("chance(2)", x, 0, 1, -1);
    }

    // "loser() 0"
    static void felledLoser() {
        FelledHasLost x = felled();
        check.due("loser(20)", x.loser(20), 0);
        check.row("loser(20)", x, 0, 0, 10000);
    }

    // "the last BLOCK of a LAYER is there yet"
    static void felledTheLastBlockIsThereYet() {
        FelledHasLost x = Check.on(".9./999/999");
        x.move(10);
        check.due("the tower", Check.told(x), ".9./999/999");
    }

    // "another one is gone when it was DRAWN"
    static void felledAnotherOneIsGone() {
        FelledHasLost x = Check.on("9.9/999");
        x.move(0);
        check.due("the tower", Check.told(x), "..9/999");
        check.due("layers", x.count(0), 2);
        check.due("blocks", x.count(1), 4);
    }

    // "lies on top when it was LAID"
    static void felledOneLiesOnTop() {
        FelledHasLost x = Check.on("9.9/999", 5, 0);
        x.move(0);
        check.due("the tower", Check.told(x), "..9/999/9..");
        check.due("layers", x.count(0), 3);
        check.due("blocks", x.count(1), 5);
    }

    // "Who is to MOVE is the next one all the same."
    static void felledTheNextOneIsToMove() {
        FelledHasLost x = Check.on("9.9/999");
        x.move(0);
        check.due("to move", x.count(4), 1);
        FelledHasLost y = Check.on("9.9/999");
        Check.players(y, "1");
        y.move(0);
        check.due("to move, of one", y.count(4), 0);
        check.due("felled by, of one", y.count(6), 0);
    }

    // "GAMES find this tower alone"
    static void felledGames() {
        FelledHasLost x = felled();
        check.due("wins()", x.wins(), 0);
        check.row("wins()", x, -1);
        check.due("longest()", x.longest(), 0);
        check.row("longest()", x);
        x.stands();
        check.due("shortest()", x.shortest(), 0);
        check.row("shortest()", x);
        check.due("high()", x.high(), 3);
        check.row("high()", x, 0, -1);
        check.due("towers()", x.towers(), 1);
        check.row("towers()", x, 1);
        check.due("free(4)", x.free(4), -2);
        check.due("free(0)", x.free(0), 0);
        check.row("free(0)", x);
    }
}
