/** The boundary cases that promises 1 to 6 name, a test for each; the sentence stands above it. */
public final class TellingEdgesTest {
    private static final Check check = new Check();
    private static final int MIN = Integer.MIN_VALUE;
    private static final int MAX = Integer.MAX_VALUE;

    public static void main(String[] args) {
        check.runAll(TellingEdgesTest.class);
    }

    // Promise 1: "A tower of no LAYERS."
    static void p1NoLayers() {
        FelledHasLost x = new FelledHasLost();
        check.due("layers", x.count(0), 0);
        check.due("blocks", x.count(1), 0);
        check.due("gaps", x.count(2), 0);
        for (int b : new int[] {0, 1, 47}) {
            check.none("block(" + b + ", 0)", () -> x.block(b, 0));
        }
        check.none("layer(0, 0)", () -> x.layer(0, 0));
        check.due("plane(0, 1)", x.plane(0, 1), -1);
        check.due("swell(0, 1)", x.swell(0, 1), -1);
        check.due("felt(0, 1)", x.felt(0, 1), -1);
        check.due("free(0)", x.free(0), -1);
    }

    static void p1NothingElseEither() {
        FelledHasLost x = new FelledHasLost();
        check.due("felled", x.count(5), 0);
        check.due("by", x.count(6), -1);
        check.due("to be undone", x.count(9), 0);
        check.due("touches", x.count(10), 0);
        check.due("the row", x.count(11), 0);
        check.due("the text", x.count(12), 0);
        check.due("nothing is kept", x.again(0) || x.again(1) || x.again(2), false);
    }

    static void p1ObjectsDoNotShareAnything() {
        FelledHasLost x = Check.on("999/999", 3, -3);
        Check.rule(x, "7");
        Check.players(x, "9");
        FelledHasLost y = new FelledHasLost();
        check.due("layers", y.count(0), 0);
        check.due("players", y.count(3), 2);
        check.due("the table", y.count(7), 0);
        Check.tower(y, "999/999");
        check.due("the rule", y.odds(0, 0), 1);
        check.due("the first one", Check.told(x), "999/999");
    }

    // Promise 2: "Four signs come behind THE TEXT, of v the highest byte first: how many it has."
    static void p2TheHighestByteFirst() {
        FelledHasLost x = new FelledHasLost();
        check.due("sign", x.sign(0x3132332f), 4);
        check.due("sign", x.sign(0x34353600), 8);
        x.end(7);
        check.due("tower()", x.tower(), 2);
        check.due("the tower", Check.told(x), "123/456");
    }

    static void p2BytesAbove127() {
        for (int v : new int[] {0xff313233, 0x80313233, -1, MIN}) {
            FelledHasLost x = new FelledHasLost();
            check.due("sign(" + v + ")", x.sign(v), 4);
            check.due("its first sign can't stand", x.tower(), -1);
        }
        FelledHasLost y = new FelledHasLost();
        y.sign(0x313233ff);
        check.due("its last sign can't stand", y.tower(), -4);
        y.sign(0x3132b300);
        check.due("a digit and 128 is none", y.tower(), -3);
    }

    // "Refused: there would be more than 80."
    static void p2EightyAreTheMost() {
        FelledHasLost x = new FelledHasLost();
        for (int n = 1; n <= 20; n++) {
            check.due("sign " + n, x.sign(0), 4 * n);
        }
        check.due("behind 80", x.sign(0), -1);
        check.due("the text", x.count(12), 80);
    }

    static void p2FourBehind77To79AreTooMany() {
        for (int n = 77; n <= 79; n++) {
            FelledHasLost x = new FelledHasLost();
            for (int i = 0; i < 20; i++) {
                x.sign(0);
            }
            x.end(n);
            check.due("behind " + n, x.sign(0), -1);
            check.due("the text", x.count(12), n);
        }
    }

    static void p2FourBehind76AreNot() {
        FelledHasLost x = new FelledHasLost();
        for (int i = 0; i < 20; i++) {
            x.sign(0);
        }
        x.end(76);
        check.due("behind 76", x.sign(0), 80);
    }

    // Promise 3: "THE TEXT has its first n signs alone: true"
    static void p3ItsFirstSignsAlone() {
        FelledHasLost x = new FelledHasLost();
        x.sign(0x31323334);
        check.due("end(3)", x.end(3), true);
        check.due("signs", x.count(12), 3);
        check.due("the text", x.tower(), 1);
        check.due("the tower", Check.told(x), "123");
    }

    static void p3AllOfThem() {
        FelledHasLost x = new FelledHasLost();
        x.sign(0);
        check.due("end(4)", x.end(4), true);
        check.due("signs", x.count(12), 4);
    }

    static void p3NoneOfThem() {
        FelledHasLost x = new FelledHasLost();
        check.due("end(0) of none", x.end(0), true);
        x.sign(0);
        check.due("end(0)", x.end(0), true);
        check.due("signs", x.count(12), 0);
    }

    // "false if it has not so many"
    static void p3NotSoMany() {
        FelledHasLost x = new FelledHasLost();
        check.due("end(1) of none", x.end(1), false);
        x.sign(0);
        check.due("end(5) of 4", x.end(5), false);
        check.due("end(MAX)", x.end(MAX), false);
        check.due("signs", x.count(12), 4);
        x.end(2);
        check.due("end(3) of 2, which were 4", x.end(3), false);
    }

    // "or n is below 0"
    static void p3Below0() {
        FelledHasLost x = new FelledHasLost();
        check.due("end(-1) of none", x.end(-1), false);
        x.sign(0);
        check.due("end(-1)", x.end(-1), false);
        check.due("end(MIN)", x.end(MIN), false);
        check.due("signs", x.count(12), 4);
    }

    private static void towerAt(String text, int at) {
        FelledHasLost x = Check.on("12./345");
        x.stands();
        String before = Check.state(x);
        check.due("tower " + text, Check.tower(x, text), -1 - at);
        check.due("all behind it", Check.state(x), before);
    }

    // Promise 4: "(an empty one: no LAYERS)"
    static void p4AnEmptyText() {
        FelledHasLost x = Check.on("123/456");
        check.due("tower()", x.tower(), 0);
        check.due("layers", x.count(0), 0);
        check.none("block(0, 0)", () -> x.block(0, 0));
    }

    // "how many LAYERS"
    static void p4OneLayerAndSixteen() {
        check.due("one", Check.tower(new FelledHasLost(), "..0"), 1);
        FelledHasLost x = new FelledHasLost();
        check.due("sixteen", Check.tower(x, "1../".repeat(15) + "..2"), 16);
        check.due("the last block", x.block(47, 0), 2);
    }

    // A tower told behind a higher one has none of its blocks.
    static void p4ALowerOneBehindAHigher() {
        FelledHasLost x = Check.on(Check.layers(16));
        check.due("tower()", Check.tower(x, "1.."), 1);
        check.due("the tower", Check.told(x), "1..");
        check.due("blocks", x.count(1), 1);
        check.none("block(47, 0)", () -> x.block(47, 0));
        check.none("block(3, 0)", () -> x.block(3, 0));
        check.due("the weight of all", x.lean(0) + x.row(0), -11 + 11);
    }

    // "who MOVES is 0"
    static void p4WhoMovesIs0() {
        FelledHasLost x = Check.on("999/999");
        x.move(0);
        Check.tower(x, "999");
        check.due("to move", x.count(4), 0);
    }

    // "nothing was felt"
    static void p4NothingWasFelt() {
        FelledHasLost x = Check.on("999/999");
        x.felt(0, 0);
        x.known(1, 3, 4);
        Check.tower(x, "999/999");
        check.due("touches", x.count(10), 0);
        check.due("forget()", x.forget(), 0);
        check.due("fits(0)", x.fits(0), 1000);
    }

    // "nothing can be undone"
    static void p4NothingCanBeUndone() {
        FelledHasLost x = Check.on("999/999");
        x.move(0);
        Check.tower(x, "999/999");
        check.due("to be undone", x.count(9), 0);
        check.due("undo()", x.undo(), -1);
    }

    // Terms: "till it is told anew"
    static void p4ToldAnewItIsNotFelled() {
        FelledHasLost x = Check.on("9.9/999");
        x.move(0);
        Check.tower(x, "999/999");
        check.due("felled", x.count(5), 0);
        check.due("by", x.count(6), -1);
        check.due("why()", x.why(), 0);
        check.due("a move", x.move(0), 1);
    }

    static void p4TheRestStays() {
        FelledHasLost x = Check.on("999/999", 2, -2);
        Check.rule(x, "42");
        Check.players(x, "123");
        x.keep(0);
        x.stands();
        Check.tower(x, "888/888");
        check.due("players", x.count(3), 3);
        check.due("along", x.count(7), 2);
        check.due("across", x.count(8), -2);
        check.due("the row", x.count(11), 2);
        check.due("the rule", x.odds(0, 0), 42);
        check.due("what is kept", x.again(0), true);
    }

    // "-1 - p: the sign at p can't stand there"
    static void p4SignsThatCannotStand() {
        towerAt("x23", 0);
        towerAt("1x3", 1);
        towerAt("12x", 2);
        towerAt("123x", 3);
        towerAt("123/x56", 4);
        towerAt("..x", 2);
        towerAt("/23", 0);
        towerAt("12/", 2);
        towerAt("1234", 3);
        towerAt("123.", 3);
        towerAt("123//", 4);
        towerAt("12:", 2);
        towerAt("12 ", 2);
        towerAt("12-", 2);
    }

    // "(its end, if it ends too early"
    static void p4ItEndsTooEarly() {
        towerAt("1", 1);
        towerAt("12", 2);
        towerAt("..", 2);
        towerAt("123/", 4);
        towerAt("123/4", 5);
        towerAt("123/45", 6);
        towerAt(Check.layers(15) + "/", 60);
    }

    // "a third GAP of a LAYER"
    static void p4AThirdGap() {
        towerAt("...", 2);
        towerAt("..1/...", 6);
        towerAt("1../.../1..", 6);
        check.due("two in each", Check.tower(new FelledHasLost(), "..1/1../.1."), 3);
    }

    // "a seventeenth LAYER's first sign: at it)"
    static void p4ASeventeenthLayer() {
        towerAt(Check.layers(17), 64);
        towerAt(Check.layers(16) + "/.", 64);
        towerAt(Check.layers(16) + "/x", 64);
        towerAt(Check.layers(16) + "//", 64);
        towerAt(Check.layers(16) + "/", 64);
    }

    static void p4ASignBehindTheSixteenth() {
        towerAt(Check.layers(16) + "9", 63);
        towerAt(Check.layers(16) + ".", 63);
    }

    static void p4AWrongSignAheadOfTheSeventeenth() {
        towerAt("x" + Check.layers(17).substring(1), 0);
        towerAt(Check.layers(15) + "/99x/999", 62);
    }

    // "It need not STAND."
    static void p4ItNeedNotStand() {
        FelledHasLost x = new FelledHasLost();
        check.due("tower()", Check.tower(x, "9../999/999"), 3);
        check.due("stands()", x.stands(), 0);
        check.due("felled", x.count(5), 0);
    }

    private static void ruleAt(String text, int at) {
        FelledHasLost x = Check.on("999/999");
        Check.rule(x, "42");
        check.due("rule " + text, Check.rule(x, text), -1 - at);
        check.due("the text behind it", x.count(12), 0);
        check.due("the rule behind it", x.odds(0, 0), 42);
    }

    // Promise 5: "(an empty one: none): 0"
    static void p5AnEmptyText() {
        FelledHasLost x = Check.on("899/999");
        Check.players(x, "7");
        Check.rule(x, "42");
        check.due("rule()", Check.rule(x, ""), 0);
        check.due("h*t of a tight one", x.odds(20, 0), 7);
        check.due("h*t of a loose one", x.odds(0, 0), 0);
    }

    static void p5OneSign() {
        for (char fact : "tklpqgnmhj0123456789".toCharArray()) {
            check.due("rule " + fact, Check.rule(new FelledHasLost(), String.valueOf(fact)), 0);
        }
    }

    // "-1 - p: the sign at p can't stand there"
    static void p5SignsThatCannotStandAsAThing() {
        for (char sign : "xTo.;!+*/<>=) \0".toCharArray()) {
            ruleAt(String.valueOf(sign), 0);
            ruleAt("1+" + sign, 2);
            ruleAt("(" + sign, 1);
            ruleAt("-" + sign, 1);
        }
        ruleAt("1<" + (char) 200, 2);
    }

    static void p5SignsThatCannotStandBehindAThing() {
        for (char sign : "xtkh(.; ".toCharArray()) {
            ruleAt("1" + sign, 1);
            ruleAt("t" + sign, 1);
            ruleAt("(1)" + sign, 3);
        }
        ruleAt("t1", 1);
        ruleAt("(1)1", 3);
        ruleAt("12t", 2);
        ruleAt("1)", 1);
        ruleAt("(1))", 3);
    }

    // "(its end, if it ends too early"
    static void p5ItEndsTooEarly() {
        ruleAt("1+", 2);
        ruleAt("1-", 2);
        ruleAt("1*", 2);
        ruleAt("1/", 2);
        ruleAt("1<", 2);
        ruleAt("-", 1);
        ruleAt("(", 1);
        ruleAt("(1", 2);
        ruleAt("((1)", 4);
        ruleAt("(1+", 3);
        ruleAt("(" + "1+".repeat(19) + "1", 40);
    }

    static void p5ItEndsTooEarlyAt40() {
        ruleAt("1+".repeat(20), 40);
        ruleAt("-".repeat(40), 40);
        ruleAt("(((1" + "+1".repeat(18), 40);
    }

    // "40, if it has more and the first 40 could go on or end)"
    static void p5TheFirst40CouldEnd() {
        String forty = "-1" + "+1".repeat(19);
        check.due("40", Check.rule(new FelledHasLost(), forty), 0);
        ruleAt(forty + "+", 40);
        ruleAt(forty + "x", 40);
        ruleAt(forty + "+1", 40);
        ruleAt(forty + "+1".repeat(20), 40);
    }

    static void p5TheFirst40CouldGoOn() {
        String forty = "1+".repeat(20);
        ruleAt(forty + "1", 40);
        ruleAt(forty + "x", 40);
        ruleAt("((" + "1+".repeat(19) + "1))", 40);
        ruleAt("(" + "1+".repeat(19) + "1)", 40);
    }

    static void p5AWrongOneOfTheFirst40() {
        ruleAt("x" + "+1".repeat(30), 0);
        ruleAt("1+".repeat(19) + "1)+1", 39);
        ruleAt("1+".repeat(19) + "1x", 39);
        ruleAt("1+".repeat(19) + "11x", 40);
        ruleAt("1+".repeat(18) + "1234", 39);
        ruleAt("1<1" + "+1".repeat(18) + "<1", 39);
    }

    private static void playersAt(String text, int at) {
        FelledHasLost x = Check.on("999/999/999");
        Check.players(x, "579");
        Check.rule(x, "h");
        x.move(0);
        check.due("players " + text, Check.players(x, text), -1 - at);
        check.due("the text behind it", x.count(12), 0);
        check.due("players behind it", x.count(3), 3);
        check.due("to move behind it", x.count(4), 1);
        check.due("the hand behind it", x.odds(21, 0), 7);
    }

    // Promise 6: "1 to 4 digits, the HAND of each: how many; who MOVES is 0"
    static void p6OneTo4() {
        String[] texts = {"5", "50", "509", "5093"};
        for (String text : texts) {
            FelledHasLost x = Check.on("999/999/999/999/999");
            Check.rule(x, "h");
            x.move(10);
            check.due("players " + text, Check.players(x, text), text.length());
            check.due("PLAYERS", x.count(3), text.length());
            check.due("to move", x.count(4), 0);
            for (int turn = 0; turn < 5; turn++) {
                int m = x.best();
                check.due("the hand of turn " + turn, x.row(0), text.charAt(turn % text.length()) - '0');
                check.due("a safe one", x.move(m), 1);
            }
        }
    }

    static void p6FewerBehindMore() {
        FelledHasLost x = Check.on("999/999/999");
        Check.rule(x, "h");
        Check.players(x, "5678");
        Check.players(x, "1");
        x.move(0);
        check.due("the only one again", x.count(4), 0);
        check.due("its hand", x.odds(21, 0), 1);
        Check.players(x, "23");
        x.move(21);
        check.due("the second one", x.count(4), 1);
    }

    static void p6AFelledOneStaysSo() {
        FelledHasLost x = Check.on("9.9/999");
        x.move(0);
        Check.players(x, "111");
        check.due("felled", x.count(5), 1);
        check.due("by", x.count(6), 0);
        check.due("to move", x.count(4), 0);
    }

    // "-1 - p: the sign at p can't stand there"
    static void p6SignsThatCannotStand() {
        playersAt("x", 0);
        playersAt("1x", 1);
        playersAt("12x", 2);
        playersAt("123x", 3);
        playersAt("1x34", 1);
        playersAt("1x345", 1);
        playersAt("/", 0);
        playersAt(":", 0);
        playersAt("1.", 1);
    }

    // "(its end for none"
    static void p6None() {
        playersAt("", 0);
    }

    // "4, if it has more)"
    static void p6More() {
        playersAt("12345", 4);
        playersAt("1234x", 4);
        playersAt("1234567", 4);
        playersAt("1".repeat(80), 4);
    }
}
