/** The boundary cases that "Terms" names, a test for each; the sentence stands above it. */
public final class TermsEdgesTest {
    private static final Check check = new Check();
    private static final int MIN = Integer.MIN_VALUE;
    private static final int MAX = Integer.MAX_VALUE;

    public static void main(String[] args) {
        check.runAll(TermsEdgesTest.class);
    }

    // "LAYERS 0 .. (at most 16) from below"
    static void layersSixteenAreTheMost() {
        check.due("16 told", Check.tower(new FelledHasLost(), Check.layers(16)), 16);
        check.due("17 told", Check.tower(new FelledHasLost(), Check.layers(17)), -65);
    }

    // "A BLOCK is told by 3 times its LAYER and its PLACE (0 .. 47)."
    static void blocksAreToldFrom0To47() {
        FelledHasLost x = Check.on("123/" + Check.layers(14) + "/456");
        check.due("block(0, 0)", x.block(0, 0), 1);
        check.due("block(2, 0)", x.block(2, 0), 3);
        check.due("block(45, 0)", x.block(45, 0), 4);
        check.due("block(47, 0)", x.block(47, 0), 6);
        check.none("block(48, 0)", () -> x.block(48, 0));
        check.none("block(-1, 0)", () -> x.block(-1, 0));
    }

    // "THICKNESS 0 .. 9 (hairs); WEIGHT: THICKNESS and 10."
    static void weightsAreFrom10To19() {
        FelledHasLost x = Check.on("0.9");
        check.due("the thinnest", x.block(0, 1), 10);
        check.due("the thickest", x.block(2, 1), 19);
    }

    // "A PLACE without a BLOCK is a GAP."
    static void aGapIsNoBlock() {
        FelledHasLost x = Check.on(".0.");
        check.none("block(0, 0)", () -> x.block(0, 0));
        check.due("block(1, 0)", x.block(1, 0), 0);
        check.none("block(2, 0)", () -> x.block(2, 0));
        check.due("gaps", x.count(2), 2);
    }

    // "one BLOCK at least in each"
    static void aLayerOfThreeGapsCannotBe() {
        check.due("the first layer", Check.tower(new FelledHasLost(), "..."), -3);
        check.due("the second", Check.tower(new FelledHasLost(), "9../..."), -7);
        check.due("two gaps", Check.tower(new FelledHasLost(), "9../..9"), 2);
    }

    private static void bearing(String layer, int bits) {
        check.due("those that bear of " + layer, Check.on(layer).layer(0, 6), bits);
    }

    // "In a LAYER those BLOCKS BEAR that are the thickest of it"
    static void bearingAllAreTheThickest() {
        bearing("000", 7);
        bearing("999", 7);
    }

    static void bearingTwoAreTheThickest() {
        bearing("998", 3);
        bearing("899", 6);
        bearing("989", 5);
        bearing("00.", 3);
        bearing(".00", 6);
        bearing("0.0", 5);
    }

    // "if that is one alone, at a side, the thickest of the others BEAR, too"
    static void bearingOneAloneAtTheLeft() {
        bearing("978", 5);
        bearing("987", 3);
    }

    static void bearingOneAloneAtTheRight() {
        bearing("879", 5);
        bearing("789", 6);
    }

    static void bearingOneAloneAtASideAndTwoEqualOthers() {
        bearing("988", 7);
        bearing("889", 7);
        bearing("100", 7);
    }

    static void bearingOneAloneAtASideAndOneOther() {
        bearing("98.", 3);
        bearing("9.8", 5);
        bearing(".89", 6);
        bearing("8.9", 5);
    }

    static void bearingOneAloneInTheMiddleBearsAlone() {
        bearing("898", 2);
        bearing("798", 2);
        bearing("89.", 2);
        bearing(".98", 2);
    }

    // "(A LAYER of one: it BEARS.)"
    static void bearingALayerOfOne() {
        bearing("0..", 1);
        bearing(".0.", 2);
        bearing("..0", 4);
    }

    // "TABLE: TILT along, TILT across -9 .. 9 (at first 0)."
    static void tiltIs0AtFirst() {
        FelledHasLost x = new FelledHasLost();
        check.due("along", x.count(7), 0);
        check.due("across", x.count(8), 0);
    }

    // "MARGIN: how much 2 times S is from the nearer EDGE, inside (0: on it); below 0: outside."
    static void marginOnTheEdgeIs0() {
        check.due("on the right edge", Check.on(".9./.0.", 5, 0).layer(0, 3), 0);
        check.due("on the left edge", Check.on(".9./.0.", -5, 0).layer(0, 3), 0);
    }

    static void marginOutsideIsBelow0() {
        check.due("beyond the right edge", Check.on(".9./.0.", 6, 0).layer(0, 3), -20);
        check.due("beyond the left edge", Check.on(".9./.0.", -6, 0).layer(0, 3), -20);
    }

    static void marginInsideIsFromTheNearerEdge() {
        check.due("nearer to the right edge", Check.on(".9./.0.", 4, 0).layer(0, 3), 20);
        check.due("nearer to the left edge", Check.on(".9./.0.", -4, 0).layer(0, 3), 20);
    }

    // "The highest LAYER has MARGIN 0."
    static void marginOfTheHighestLayerIs0() {
        FelledHasLost x = Check.on("999/9..", 9, -9);
        check.due("the highest", x.layer(1, 3), 0);
        check.due("the only one", Check.on("..9", 9, 9).layer(0, 3), 0);
    }

    // "It STANDS, if no LAYER has a MARGIN below 0."
    static void standsOnTheEdge() {
        check.due("on the edge", Check.on(".9./.0.", 5, 0).stands(), 1);
        check.due("beyond it", Check.on(".9./.0.", 6, 0).stands(), 0);
        check.due("no layers", new FelledHasLost().stands(), 1);
        check.due("one layer", Check.on("..9", 9, 9).stands(), 1);
    }

    // "PLAYERS 1 .. 4 (at first 2), HANDS 0 .. 9 of each (how they shake; at first 1); who is to MOVE (at first 0)."
    static void playersAtFirst() {
        FelledHasLost x = Check.on("999/999/999");
        Check.rule(x, "h");
        check.due("players", x.count(3), 2);
        check.due("to move", x.count(4), 0);
        check.due("the first hand", x.odds(0, 0), 1);
        x.move(0);
        check.due("the second hand", x.odds(21, 0), 1);
    }

    // "LAID at that PLACE: of the highest LAYER, if that has a GAP there"
    static void moveToAGapOfTheHighestLayer() {
        FelledHasLost x = Check.on("999/999/9.9");
        check.due("where there is none, left", x.move(10), -2);
        check.due("where there is none, right", x.move(12), -2);
        check.due("where there is one", x.move(11), 1);
        check.due("the tower", Check.told(x), "9.9/999/999");
    }

    // "if the highest LAYER has none, of a new LAYER (then any PLACE"
    static void moveToANewLayer() {
        String[] towers = {"9.9/999/9..", "9.9/999/.9.", "9.9/999/..9"};
        for (int q = 0; q < 3; q++) {
            FelledHasLost x = Check.on("999/999");
            check.due("move(" + (10 + q) + ")", x.move(10 + q), 1);
            check.due("the tower", Check.told(x), towers[q]);
        }
    }

    // "if there are 16, no MOVE can be)"
    static void moveOfSixteenFullLayersCannotBe() {
        FelledHasLost x = Check.on(Check.layers(16));
        check.due("move(10)", x.move(10), -2);
        check.due("odds(10, 0)", x.odds(10, 0), -2);
        check.due("moves()", x.moves(), 0);
        check.row("moves()", x, -1, -1, 0);
    }

    static void moveToTheSixteenthLayerCanBe() {
        FelledHasLost x = Check.on(Check.layers(15));
        check.due("a new one", x.move(10), 1);
        check.due("layers", x.count(0), 16);
        check.due("its second gap", x.move(41), 1);
        check.due("its third gap", x.move(72), 1);
        check.due("blocks of it", x.layer(15, 0), 3);
        check.due("no more", x.move(100), -2);
    }

    // "It CAN be, if the BLOCK is there"
    static void moveOfABlockThatIsNotThereCannotBe() {
        FelledHasLost x = Check.on("9.9/999/999");
        for (int m : new int[] {10, 90, 480, 4790, -1, -10, MIN, MAX}) {
            check.due("move(" + m + ")", x.move(m), -2);
            check.due("odds(" + m + ", 0)", x.odds(m, 0), -2);
        }
    }

    static void moveToAPlaceThatIsNoneCannotBe() {
        FelledHasLost x = Check.on("999/999");
        for (int m : new int[] {3, 9, 13, 19, 29}) {
            check.due("move(" + m + ")", x.move(m), -2);
        }
        check.due("move(2)", x.move(2), 1);
    }

    // "not in the highest LAYER"
    static void moveOutOfTheHighestLayerCannotBe() {
        FelledHasLost x = Check.on("999/999/999");
        for (int m : new int[] {60, 71, 82}) {
            check.due("a full one, move(" + m + ")", x.move(m), -2);
        }
        FelledHasLost y = Check.on("999/999/99.");
        check.due("one with a gap", y.move(62), -2);
        check.due("one layer alone", Check.on("999").move(10), -2);
    }

    // "and, if the highest LAYER has a GAP, not in the one below it"
    static void moveOutOfTheOneBelowCannotBeIfThereIsAGap() {
        FelledHasLost x = Check.on("999/999/99.");
        for (int m : new int[] {32, 42, 52}) {
            check.due("move(" + m + ")", x.move(m), -2);
        }
        check.due("the one below that", x.move(12), 1);
        check.due("two layers", Check.on("999/99.").move(12), -2);
    }

    static void moveOutOfTheOneBelowCanBeIfThereIsNone() {
        FelledHasLost x = Check.on("999/999/999");
        check.due("move(41)", x.move(41), 1);
        check.due("the tower", Check.told(x), "999/9.9/999/.9.");
    }

    // "It is SAFE, if the BLOCK is not the last one of its LAYER"
    static void safeIsNotTheLastOfItsLayer() {
        FelledHasLost x = Check.on(".9./999");
        check.due("the last one", x.odds(11, 0), 100);
        check.row("the last one", x, 0);
        FelledHasLost y = Check.on("99./999");
        check.due("one of two", y.odds(1, 0), 1);
        check.row("one of two", y, 1);
    }

    // "and THE TOWER STANDS when it is DRAWN"
    static void safeOnTheEdgeWhenDrawn() {
        FelledHasLost x = Check.on("9.9/999", 5, 0);
        x.odds(1, 0);
        check.row("margin 0 when drawn", x, 1);
        check.due("move(1)", x.move(1), 1);
        FelledHasLost y = Check.on("9.9/999", 4, 0);
        y.odds(1, 0);
        check.row("below 0 when drawn", y, 0);
        check.due("move(1)", y.move(1), 0);
        check.due("why()", y.why(), 2);
        check.row("why()", y, 0, -114);
    }

    // "and when it is LAID"
    static void safeOnTheEdgeWhenLaid() {
        FelledHasLost x = Check.on("9.9/999", 6, 0);
        x.odds(0, 0);
        check.row("margin 0 when laid", x, 1);
        check.due("move(0)", x.move(0), 1);
        x.stands();
        check.row("stands()", x, -1, 0);
        FelledHasLost y = Check.on("9.9/999", 5, 0);
        y.odds(0, 0);
        check.row("below 0 when laid", y, 0);
        check.due("move(0)", y.move(0), 0);
        check.due("why()", y.why(), 3);
        check.row("why()", y, 0, -190);
    }

    private static void odds(String rule, int due) {
        FelledHasLost x = Check.on("999/999");
        check.due("rule " + rule, Check.rule(x, rule), 0);
        check.due("odds by " + rule, x.odds(0, 0), due);
    }

    private static void refusedAt(String rule, int at) {
        check.due("rule " + rule, Check.rule(new FelledHasLost(), rule), -1 - at);
    }

    // "THE RULE is a text of at most 40 signs"
    static void ruleOf40SignsAndNoMore() {
        odds("1" + "+1".repeat(19) + "0", 29);
        refusedAt("1" + "+1".repeat(20), 40);
    }

    // "(at first none: h*t)"
    static void ruleAtFirst() {
        FelledHasLost x = Check.on("899/999");
        Check.players(x, "37");
        check.due("a tight one", x.odds(20, 0), 3);
        check.due("a loose one", x.odds(0, 0), 0);
        check.due("jerked", x.odds(20, 1), 3);
        x = Check.on("899/999/999");
        Check.players(x, "37");
        x.move(30);
        check.due("the next hand", x.odds(21, 0), 7);
    }

    // "< > = bind least (two; 1 or 0"
    static void ruleComparedWithAnEqual() {
        odds("3<3", 0);
        odds("3>3", 0);
        odds("3=3", 1);
    }

    static void ruleComparedWithOneMoreAndOneLess() {
        odds("2<3", 1);
        odds("4<3", 0);
        odds("4>3", 1);
        odds("2>3", 0);
        odds("2=3", 0);
        odds("4=3", 0);
    }

    static void ruleComparisonsBindLeast() {
        odds("1+1=2", 1);
        odds("2=1+1", 1);
        odds("2*3>5", 1);
        odds("5<2*3", 1);
        odds("7>-7", 1);
    }

    // "not one behind the other)"
    static void ruleComparisonsNotOneBehindTheOther() {
        refusedAt("1<2<3", 3);
        refusedAt("1=2+3=4", 5);
        refusedAt("(1<2>3)", 4);
        refusedAt("1<(2<3)<4", 7);
        odds("(1<2)<2", 1);
        odds("0<(1<2)", 1);
        odds("(1<2)+(1<2)", 2);
    }

    // A rule that was refused behind a comparison does not reach into the next one.
    static void ruleComparisonsOfAnEarlierTextDoNotMatter() {
        FelledHasLost x = Check.on("999/999");
        check.due("a refused one", Check.rule(x, "1<2<3"), -4);
        check.due("a comparison behind it", Check.rule(x, "1<2"), 0);
        check.due("and once more", Check.rule(x, "2<3"), 0);
    }

    static void ruleBracketsOfAnEarlierTextDoNotMatter() {
        FelledHasLost x = Check.on("999/999");
        check.due("open ones", Check.rule(x, "3+(4*(5"), -8);
        check.due("one behind them", Check.rule(x, "7"), 0);
        check.due("its odds", x.odds(0, 0), 7);
        check.due("a closing one", Check.rule(x, "7)"), -2);
    }

    static void ruleMinusSignsOfAnEarlierTextDoNotMatter() {
        FelledHasLost x = Check.on("999/999");
        check.due("a refused one", Check.rule(x, "-x"), -2);
        check.due("one behind it", Check.rule(x, "7"), 0);
        check.due("its odds", x.odds(0, 0), 7);
    }

    static void ruleDigitsOfAnEarlierTextDoNotMatter() {
        FelledHasLost x = Check.on("999/999");
        check.due("a number", Check.rule(x, "12"), 0);
        check.due("digits behind a letter", Check.rule(x, "t3"), -2);
        check.due("digits behind a number and a bracket", Check.rule(x, "(12)3"), -5);
    }

    // "then + - (from the left)"
    static void ruleSumsFromTheLeft() {
        odds("20-3-4", 13);
        odds("20-3+4", 21);
    }

    // "then * / (from the left"
    static void ruleProductsFromTheLeft() {
        odds("100/7/2", 7);
        odds("8/3*3", 6);
        odds("8*3/5", 4);
        odds("2+3*4-5", 9);
    }

    // "by 0: 0"
    static void ruleDividedBy0() {
        odds("7/0", 0);
        odds("5+7/0", 5);
        odds("5+7/(3-3)*9", 5);
        odds("0/0+1", 1);
    }

    // "cut to 0)"
    static void ruleQuotientsAreCutTo0() {
        odds("9+7/2", 12);
        odds("9+-7/2", 6);
        odds("9+7/-2", 6);
        odds("9+-7/-2", 12);
        odds("9+-1/2", 9);
    }

    // "then - ahead of a thing (any many)"
    static void ruleManyMinusSigns() {
        odds("-".repeat(38) + "50", 50);
        odds("-".repeat(37) + "50", 0);
        odds("60" + "-".repeat(37) + "5", 55);
        odds("60" + "-".repeat(36) + "5", 65);
        odds("-2*-3", 6);
        odds("9--(1+2)", 12);
    }

    // "a NUMBER of 1 to 3 digits"
    static void ruleNumbersOf1To3Digits() {
        odds("7", 7);
        odds("42", 42);
        odds("100", 100);
        odds("007", 7);
        odds("999-990", 9);
    }

    static void ruleNumbersOfFourDigitsCannotBe() {
        refusedAt("1234", 3);
        refusedAt("0000", 3);
        refusedAt("1+1234", 5);
    }

    // "an EXPRESSION in ( ) (at most 4 in one another)"
    static void ruleBracketsFourInOneAnother() {
        odds("((((7))))", 7);
        odds("((((3))))+((((4))))", 7);
        odds("1-(2-(3-(4-(5))))", 3);
    }

    static void ruleBracketsFiveInOneAnotherCannotBe() {
        refusedAt("(((((7)))))", 4);
        refusedAt("1+(1+(1+(1+(1+(1", 14);
    }

    static void ruleBracketsThatAreEmptyCannotBe() {
        refusedAt("()", 1);
        refusedAt("1+()", 3);
    }

    // "of a MOVE: .. k its THICKNESS, l its LAYER, p its PLACE, q the PLACE where it is LAID, g how many GAPS its LAYER has"
    static void ruleFactsAtTheirLeast() {
        FelledHasLost x = Check.on("099/999");
        String[] facts = {"t", "k", "l", "p", "q", "g", "j"};
        for (String fact : facts) {
            Check.rule(x, fact + "+50");
            check.due(fact + " of 0", x.odds(0, 0), 50);
        }
    }

    static void ruleFactsAtTheirGreatest() {
        String[] facts = {"t", "k", "l", "p", "q", "g", "n", "h", "j"};
        int[] due = {1, 9, 13, 2, 2, 1, 15, 9, 1};
        for (int i = 0; i < facts.length; i++) {
            FelledHasLost x = Check.on(Check.layers(13) + "/.99/999");
            Check.players(x, "9");
            Check.rule(x, facts[i]);
            check.due(facts[i], x.odds(412, 1), due[i]);
        }
    }

    // "m MARGIN of its LAYER by 100 (cut to 0)"
    static void ruleMarginBy100IsCutTo0() {
        FelledHasLost x = Check.on("999/111");
        Check.rule(x, "m");
        check.due("990 by 100", x.odds(0, 0), 9);
        Check.tower(x, "999/000");
        check.due("900 by 100", x.odds(0, 0), 9);
        FelledHasLost y = Check.on("099/.0./9..");
        Check.rule(y, "m+5");
        check.due("-90 by 100", y.odds(11, 0), 5);
        y.table(0, -1);
        check.due("-186 by 100", y.odds(11, 0), 4);
    }

    // "h the HAND that MOVES"
    static void ruleHandsFrom0To9() {
        FelledHasLost x = Check.on("999/999/999");
        Check.rule(x, "h+1");
        Check.players(x, "09");
        check.due("0", x.odds(0, 0), 1);
        x.move(0);
        check.due("9", x.odds(21, 0), 10);
    }

    // "As ints" (a wrap-around)
    static void ruleValuesWrapAround() {
        odds("256*256*256*128<0", 1);
        odds("256*256*256*128-1>0", 1);
        odds("256*256*256*256", 0);
        odds("256*256*256*256+5", 5);
    }

    static void ruleOfTheLeastIntByMinusOneWrapsAround() {
        odds("(256*256*256*128/-1<0)*7", 7);
        odds("(-(256*256*256*128)<0)*7", 7);
        odds("(-(256*256*256*128)/2<0)*7", 7);
    }

    // "put to 0 .. 100: the ODDS of a fall, in hundredths"
    static void oddsArePutTo0To100() {
        odds("0-1", 0);
        odds("-999*999", 0);
        odds("0", 0);
        odds("1", 1);
        odds("99", 99);
        odds("100", 100);
        odds("101", 100);
        odds("999*999", 100);
    }

    // "of a MOVE that CAN be and is not SAFE 100"
    static void oddsOfOneThatIsNotSafeAre100() {
        FelledHasLost x = Check.on("9.9/999");
        Check.rule(x, "0");
        check.due("drawn", x.odds(0, 0), 100);
        check.due("jerked", x.odds(0, 1), 100);
        x = Check.on(".9./999");
        Check.rule(x, "0-50");
        check.due("the last one", x.odds(10, 0), 100);
        x = Check.on("9.9/999", 5, 0);
        Check.rule(x, "0");
        check.due("laid", x.odds(0, 0), 100);
        check.due("laid where it stands", x.odds(1, 0), 0);
    }

    // "-3: more than 400 are found."
    static void gamesFind400() {
        FelledHasLost x = Check.on("266/.26/.6./9.6/64./252");
        check.due("towers()", x.towers(), 400);
        check.row("towers()", x, 90);
        check.due("wins()", x.wins(), 1);
        check.row("wins()", x, 0);
        check.due("longest()", x.longest(), 8);
        check.row("longest()", x, 0, 21, 52, 120, 151, 172, 180, 201);
        check.due("shortest()", x.shortest(), 4);
        check.row("shortest()", x, 10, 51, 122, 160);
        check.due("high()", x.high(), 9);
        check.row("high()", x, 7, 0);
    }

    static void gamesOf401AreTooMany() {
        FelledHasLost x = Check.on("202/259/96./4..");
        check.due("towers()", x.towers(), -3);
        check.due("wins()", x.wins(), -3);
        check.due("longest()", x.longest(), -3);
        check.due("shortest()", x.shortest(), -3);
        check.due("high()", x.high(), -3);
    }

    // "each once": two ways to the same tower
    static void gamesFindATowerOnce() {
        check.due("towers()", Check.on("999/999").towers(), 13);
    }

    // "(who MOVES, THE RULE do not matter)"
    static void gamesWhoMovesAndTheRuleDoNotMatter() {
        FelledHasLost x = Check.on("999/999/999");
        x.move(0);
        FelledHasLost y = Check.on(".99/999/999/9..");
        Check.players(y, "9");
        Check.rule(y, "100");
        check.due("wins()", x.wins(), y.wins());
        check.due("towers()", x.towers(), y.towers());
        check.due("longest()", x.longest(), y.longest());
    }

    // "Fractions are told in lowest terms, upper and lower number (0 by 1)."
    static void fractionsInLowestTerms() {
        String[] rules = {"0", "50", "75", "60", "1", "99", "100"};
        long[][] due = {{1, 1, 0}, {1, 2, 0}, {1, 4, 0}, {2, 5, 0}, {99, 100, 0}, {1, 100, 0}, {0, 1, -1}};
        for (int i = 0; i < rules.length; i++) {
            FelledHasLost x = Check.on("999/999");
            Check.rule(x, rules[i]);
            x.chance(1);
            check.row("chance(1) by " + rules[i], x, due[i]);
        }
    }

    private interface Refusing {
        boolean refuses(FelledHasLost x);
    }

    private static FelledHasLost withAllThereIs() {
        FelledHasLost x = Check.on("999/9.9/999/999", 1, -1);
        Check.players(x, "37");
        Check.rule(x, "42");
        x.move(10);
        x.felt(3, 1);
        x.known(5, 2, 5);
        x.keep(1);
        x.stands();
        Check.say(x, "123");
        return x;
    }

    // "Refused calls answer NONE, or false, and change nothing but THE TEXT"
    static void refusedCallsChangeNothing() {
        Refusing[] calls = {x -> !x.end(4), x -> !x.end(-1), x -> x.plane(1, 5) == -1, x -> x.plane(0, 10) == -1, x -> x.plane(0, -1) == -1,
            x -> x.sheet(4, 1, 1, 1) == -1, x -> x.sheet(0, 49, 1, 1) == -1, x -> x.sheet(3, 49, 1, 1) == -1, x -> x.sheet(1, -1, 1, 1) == -2,
            x -> !x.table(2, 0), x -> !x.table(0, 10), x -> !x.table(1, -10), x -> x.swell(5, 1) == -1, x -> x.swell(0, 10) == -1,
            x -> x.swell(0, -10) == -1, x -> x.lean(2) == -100000, x -> x.odds(0, 2) == -1, x -> x.odds(990, 0) == -2, x -> x.where(1) == -1,
            x -> x.where(12) == -2, x -> x.move(990) == -2, x -> x.free(15) == -1, x -> x.chance(3) == -1, x -> x.loser(21) == -1,
            x -> x.felt(1, 1) == -1, x -> x.felt(0, 2) == -1, x -> !x.known(1, 0, 9), x -> !x.known(0, 5, 4), x -> x.fits(5) == -1,
            x -> x.span(1) == -1, x -> x.sure(1) == -1, x -> x.touch(5) == -1, x -> !x.keep(3), x -> !x.again(3), x -> !x.again(0),
            x -> x.count(13) == -100};
        for (int i = 0; i < calls.length; i++) {
            FelledHasLost x = withAllThereIs();
            String before = Check.state(x);
            check.due("call " + i + " is refused", calls[i].refuses(x), true);
            check.due("all behind call " + i, Check.state(x), before);
            check.due("the rule behind call " + i, x.odds(71, 0), 42);
            check.due("the text behind call " + i, x.tower(), 1);
            check.due("what it told", Check.told(x), "123");
        }
    }

    // "which a call that reads it empties"
    static void refusedCallsThatReadTheTextEmptyIt() {
        Refusing[] calls = {x -> x.tower() == -1, x -> x.rule() == -1, x -> x.players() == -1, x -> x.play() == -1};
        for (int i = 0; i < calls.length; i++) {
            FelledHasLost x = withAllThereIs();
            x.end(0);
            String before = Check.state(x);
            Check.say(x, "xyz");
            check.due("call " + i + " is refused", calls[i].refuses(x), true);
            check.due("all behind call " + i, Check.state(x), before);
            check.due("the rule behind call " + i, x.odds(71, 0), 42);
        }
    }

    static void refusedUndoChangesNothing() {
        FelledHasLost x = Check.on("999/999");
        x.stands();
        Check.say(x, "123");
        String before = Check.state(x);
        check.due("undo()", x.undo(), -1);
        check.due("all behind it", Check.state(x), before);
    }

    static void refusedTouchesChangeNothing() {
        FelledHasLost x = Check.on("999/999");
        for (int n = 0; n < 20; n++) {
            x.felt(3, 1);
        }
        x.stands();
        String before = Check.state(x);
        check.due("the 21st", x.felt(0, 0), -1);
        check.due("all behind it", Check.state(x), before);
    }

    static void refusedSignsChangeNothing() {
        FelledHasLost x = Check.on("999/999");
        for (int n = 0; n < 20; n++) {
            x.sign(0x39393939);
        }
        String before = Check.state(x);
        check.due("the 21st", x.sign(0), -1);
        check.due("all behind it", Check.state(x), before);
    }

    // "An object is used for at most 512 calls"
    static void theCallBehind511OthersIsAnswered() {
        FelledHasLost x = new FelledHasLost();
        for (int n = 0; n < 511; n++) {
            x.bump(n);
        }
        check.due("the 512th", x.stands(), 1);
    }
}
