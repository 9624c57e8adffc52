/** The boundary cases that promises 27 to 32 name, a test for each; the sentence stands above it. */
public final class GamesEdgesTest {
    private static final Check check = new Check();
    private static final int MIN = Integer.MIN_VALUE;
    private static final int MAX = Integer.MAX_VALUE;
    private static final String[] WITHOUT_MOVES = {"", "999", "999/99.", ".9./999", "9.9/999", "9../999/999", Check.layers(16)};
    /** As many as are found at most, and one more. */
    private static final String OF_400 = "266/.26/.6./9.6/64./252";
    private static final String OF_401 = "202/259/96./4..";

    public static void main(String[] args) {
        check.runAll(GamesEdgesTest.class);
    }

    // Promise 27: "who has none must fell it and loses"
    static void p27WhoHasNoneLoses() {
        for (String tower : WITHOUT_MOVES) {
            FelledHasLost x = Check.on(tower);
            x.loose();
            check.due("wins() of " + tower, x.wins(), 0);
            check.row("wins() of " + tower, x, -1);
        }
    }

    // "Who is to MOVE wins (1)"
    static void p27OneMoveAndThenNone() {
        FelledHasLost x = Check.on(".99/999");
        x.loose();
        check.due("wins()", x.wins(), 1);
        check.row("wins()", x, 20);
    }

    // "the ROW: the least MOVE that wins": lesser ones lose
    static void p27TheLeastThatWins() {
        FelledHasLost x = Check.on("999/999");
        check.due("wins()", x.wins(), 1);
        check.row("wins()", x, 10);
        FelledHasLost y = Check.on("22./225/924/.3.");
        check.due("wins()", y.wins(), 1);
        check.row("wins()", y, 40);
    }

    // "(NONE)"
    static void p27ThereAreMovesAndNoneWins() {
        FelledHasLost x = Check.on("777/777/777/..7");
        x.loose();
        check.due("wins()", x.wins(), 0);
        check.row("wins()", x, -1);
    }

    // "-3."
    static void p27TooMany() {
        FelledHasLost x = Check.on(OF_401);
        x.lean(0);
        long before = x.row(0);
        check.due("wins() of 401", x.wins(), -3);
        check.row("what was told ahead of it", x, before);
        check.due("wins() of 400", Check.on(OF_400).wins(), 1);
    }

    // Promise 28: "The most SAFE MOVES that can follow one another: how many"
    static void p28None() {
        for (String tower : WITHOUT_MOVES) {
            FelledHasLost x = Check.on(tower);
            x.stands();
            check.due("longest() of " + tower, x.longest(), 0);
            check.row("longest() of " + tower, x);
        }
    }

    // "the ROW: the first 10 of them"
    static void p28TenOfTen() {
        FelledHasLost x = Check.on("777/777/777/..7");
        check.due("longest()", x.longest(), 10);
        check.row("longest()", x, 0, 21, 30, 51, 62, 80, 91, 112, 120, 141);
    }

    static void p28NineOfNine() {
        FelledHasLost x = Check.on("777/76./777/.77");
        check.due("longest()", x.longest(), 9);
        check.row("longest()", x, 0, 20, 31, 62, 80, 91, 112, 120, 141);
    }

    static void p28TenOfEleven() {
        FelledHasLost x = Check.on(".77/73./2.8/7.7/777/.77/7.7/776", 1, 1);
        check.due("longest()", x.longest(), 11);
        check.row("longest()", x, 30, 121, 12, 170, 141, 232, 241, 262, 60, 290);
    }

    static void p28TenOfFifteen() {
        FelledHasLost x = Check.on("7.7/..8/1.2/525/164/.79/5.5", -1, 1);
        check.due("longest()", x.longest(), 15);
        check.row("longest()", x, 91, 142, 120, 111, 201, 20, 82, 232, 171, 180);
    }

    // "the least row"
    static void p28TheLeastRow() {
        FelledHasLost x = Check.on("999/999");
        check.due("longest()", x.longest(), 2);
        check.row("longest()", x, 0, 21);
    }

    // "-3."
    static void p28TooMany() {
        FelledHasLost x = Check.on(OF_401);
        x.lean(0);
        long before = x.row(0);
        check.due("longest() of 401", x.longest(), -3);
        check.row("what was told ahead of it", x, before);
        check.due("longest() of 400", Check.on(OF_400).longest(), 8);
    }

    // Promise 29: "The fewest SAFE MOVES behind which there is none more: how many"
    static void p29None() {
        for (String tower : WITHOUT_MOVES) {
            FelledHasLost x = Check.on(tower);
            x.stands();
            check.due("shortest() of " + tower, x.shortest(), 0);
            check.row("shortest() of " + tower, x);
        }
    }

    static void p29One() {
        FelledHasLost x = Check.on("999/999");
        x.stands();
        check.due("shortest()", x.shortest(), 1);
        check.row("shortest()", x, 10);
    }

    static void p29Seven() {
        FelledHasLost x = Check.on(".77/.77/77./.77/7.7/77./777");
        check.due("shortest()", x.shortest(), 7);
        check.row("shortest()", x, 20, 51, 62, 110, 151, 192, 220);
    }

    // "-3."
    static void p29TooMany() {
        FelledHasLost x = Check.on(OF_401);
        x.lean(0);
        long before = x.row(0);
        check.due("shortest() of 401", x.shortest(), -3);
        check.row("what was told ahead of it", x, before);
        check.due("shortest() of 400", Check.on(OF_400).shortest(), 4);
    }

    // Promise 30: "the ROW: by how few SAFE MOVES, the first of them (NONE)"
    static void p30None() {
        int[] due = {0, 1, 2, 2, 2, 3, 16};
        for (int i = 0; i < due.length; i++) {
            FelledHasLost x = Check.on(WITHOUT_MOVES[i]);
            x.loose();
            check.due("high() of " + WITHOUT_MOVES[i], x.high(), due[i]);
            check.row("high() of " + WITHOUT_MOVES[i], x, 0, -1);
        }
    }

    static void p30MovesThatMakeItNoHigher() {
        FelledHasLost x = Check.on(".99/999/..9");
        check.due("there are moves", x.moves(), 2);
        check.due("high()", x.high(), 3);
        check.row("high()", x, 0, -1);
    }

    static void p30One() {
        FelledHasLost x = Check.on(".99/999");
        check.due("high()", x.high(), 3);
        check.row("high()", x, 1, 20);
    }

    static void p30ByManyMoves() {
        FelledHasLost x = Check.on("7.7/..8/1.2/525/164/.79/5.5", -1, 1);
        check.due("high()", x.high(), 12);
        check.row("high()", x, 14, 91);
        FelledHasLost y = Check.on(".77/73./2.8/7.7/777/.77/7.7/776", 1, 1);
        check.due("high()", y.high(), 12);
        check.row("high()", y, 10, 30);
    }

    // At most 16 LAYERS: there is no move to a seventeenth.
    static void p30Sixteen() {
        FelledHasLost x = Check.on(".9./".repeat(13) + ".99/999/99.");
        check.due("high()", x.high(), 16);
        check.row("high()", x, 0, -1);
        FelledHasLost y = Check.on(".9./".repeat(13) + ".99/999");
        check.due("high()", y.high(), 16);
        check.row("high()", y, 1, 410);
    }

    // "-3."
    static void p30TooMany() {
        FelledHasLost x = Check.on(OF_401);
        x.lean(0);
        long before = x.row(0);
        check.due("high() of 401", x.high(), -3);
        check.row("what was told ahead of it", x, before);
        check.due("high() of 400", Check.on(OF_400).high(), 9);
    }

    // Promise 31: "How many towers can come; the ROW: how many of them have no SAFE MOVE."
    static void p31ThisOneAlone() {
        for (String tower : WITHOUT_MOVES) {
            FelledHasLost x = Check.on(tower);
            x.stands();
            check.due("towers() of " + tower, x.towers(), 1);
            check.row("towers() of " + tower, x, 1);
        }
    }

    static void p31AFew() {
        FelledHasLost x = Check.on(".99/999");
        check.due("towers()", x.towers(), 4);
        check.row("towers()", x, 3);
    }

    // The same towers are found again by a second call, whatever was found ahead of it.
    static void p31TwoSearches() {
        FelledHasLost x = Check.on("777/777/777/..7");
        check.due("towers()", x.towers(), 373);
        check.row("towers()", x, 39);
        Check.tower(x, "999/999");
        check.due("towers()", x.towers(), 13);
        check.row("towers()", x, 6);
        check.due("wins()", x.wins(), 1);
        check.row("wins()", x, 10);
    }

    static void p31ASearchBehindOneOfTooMany() {
        FelledHasLost x = Check.on(Check.layers(8));
        check.due("towers()", x.towers(), -3);
        Check.tower(x, "999/999");
        check.due("towers()", x.towers(), 13);
        check.due("longest()", x.longest(), 2);
        check.row("longest()", x, 0, 21);
    }

    /** Towers whose keys meet at both ends of the table that finds them again, so that the step from its last slot to its first is taken. */
    static void p31EachOnceThoughTheirKeysMeet() {
        FelledHasLost x = Check.on(".05/98./.92/021");
        check.due("towers()", x.towers(), 124);
        check.row("towers()", x, 54);
        check.due("longest()", x.longest(), 5);
        check.row("longest()", x, 20, 31, 82, 90, 111);
        FelledHasLost y = Check.on("609/08./057");
        check.due("towers()", y.towers(), 130);
        check.row("towers()", y, 57);
        check.due("shortest()", y.shortest(), 2);
        check.row("shortest()", y, 10, 31);
        FelledHasLost z = Check.on("111/20./784");
        check.due("towers()", z.towers(), 82);
        check.row("towers()", z, 33);
    }

    // "-3."
    static void p31TooMany() {
        FelledHasLost x = Check.on(OF_401);
        x.lean(0);
        long before = x.row(0);
        check.due("towers() of 401", x.towers(), -3);
        check.row("what was told ahead of it", x, before);
        FelledHasLost y = Check.on(OF_400);
        check.due("towers() of 400", y.towers(), 400);
        check.row("towers() of 400", y, 90);
    }

    // Promise 32: "(0: it is one)"
    static void p32ItIsOne() {
        FelledHasLost x = Check.on("9.9/..9");
        for (int b : new int[] {1, 3, 4}) {
            x.stands();
            check.due("free(" + b + ")", x.free(b), 0);
            check.row("free(" + b + ")", x);
        }
        check.due("though there are too many towers", Check.on(OF_401).free(11), 0);
    }

    static void p32ByOne() {
        FelledHasLost x = Check.on("999/999");
        x.stands();
        check.due("free(2)", x.free(2), 1);
        check.row("free(2)", x, 20);
    }

    // "the ROW: the first 10 of them: the least row"
    static void p32FiveOfFive() {
        FelledHasLost x = Check.on("777/76./777/.77");
        check.due("free(10)", x.free(10), 5);
        check.row("free(10)", x, 0, 20, 31, 62, 100);
    }

    static void p32TenOfTen() {
        FelledHasLost x = Check.on("7.9/777/.77/777/71./.7.", 1, 0);
        check.due("free(7)", x.free(7), 10);
        check.row("free(7)", x, 30, 52, 90, 111, 122, 0, 151, 172, 192, 71);
    }

    static void p32TenOfEleven() {
        FelledHasLost x = Check.on("1.7/0.7/7.7/7.7/797/77./777/8..", 0, 1);
        check.due("free(9)", x.free(9), 11);
        check.row("free(9)", x, 121, 142, 150, 181, 202, 231, 212, 30, 240, 261);
    }

    // "-2: by none"
    static void p32ByNone() {
        FelledHasLost x = Check.on("999/999");
        x.lean(0);
        for (int b = 3; b < 6; b++) {
            check.due("free(" + b + ")", x.free(b), -2);
        }
        check.due("of one layer", Check.on("999").free(0), -2);
        check.due("of 400 towers", Check.on(OF_400).free(4), -2);
        check.row("what was told ahead of it", x, 114);
    }

    // "-3: of the first 400 found it is one in none, and there are more"
    static void p32NotAmongTheFirst400() {
        FelledHasLost x = Check.on(OF_401);
        x.lean(0);
        long before = x.row(0);
        check.due("free(7)", x.free(7), -3);
        check.row("what was told ahead of it", x, before);
    }

    static void p32AmongTheFirst400OfMore() {
        FelledHasLost x = Check.on(OF_401);
        check.due("free(6)", x.free(6), 3);
        check.row("free(6)", x, 1, 22, 60);
        check.due("free(9)", x.free(9), 6);
        check.row("free(9)", x, 1, 22, 30, 51, 62, 90);
    }

    // "NONE: no such PLACE of a LAYER that is there"
    static void p32NoSuchPlace() {
        FelledHasLost x = Check.on("999/9..");
        x.lean(0);
        for (int b : new int[] {-1, 6, 7, 47, 48, MIN, MAX}) {
            check.due("free(" + b + ")", x.free(b), -1);
        }
        check.due("a gap of the highest layer", x.free(5), 0);
        check.due("of no layers", new FelledHasLost().free(0), -1);
        check.due("of sixteen", Check.on(Check.layers(16)).free(48), -1);
        check.due("the last of sixteen", Check.on(Check.layers(16)).free(47), -2);
    }

    // What was found for another tower, or by another call, does not matter.
    static void gamesOneBehindTheOther() {
        String[] towers = {OF_400, "777/777/777/..7", "999/999", ".99/999", OF_401, "22./225/924/.3.", "9.9/999", "777/76./777/.77"};
        FelledHasLost x = new FelledHasLost();
        for (int n = 0; n < 2 * towers.length; n++) {
            String tower = towers[n * 3 % towers.length];
            Check.tower(x, tower);
            for (int call = 0; call < 6; call++) {
                int which = n < towers.length ? call : 5 - call;
                check.due("game " + which + " of " + tower, game(x, which), game(Check.on(tower), which));
            }
        }
    }

    private static String game(FelledHasLost x, int which) {
        x.why();
        StringBuilder s = new StringBuilder();
        switch (which) {
            case 0: s.append(x.wins()); break;
            case 1: s.append(x.longest()); break;
            case 2: s.append(x.shortest()); break;
            case 3: s.append(x.high()); break;
            case 4: s.append(x.towers()); break;
            default: s.append(x.free(3));
        }
        for (int i = 0; i < x.count(11); i++) {
            s.append(' ').append(x.row(i));
        }
        return s.toString();
    }

    static void gamesManyTimes() {
        FelledHasLost x = Check.on("777/777/777/..7");
        for (int n = 0; n < 100; n++) {
            check.due("longest()", x.longest(), 10);
        }
        check.row("longest()", x, 0, 21, 30, 51, 62, 80, 91, 112, 120, 141);
    }

    // "(nothing changes)"
    static void gamesChangeNothing() {
        FelledHasLost x = Check.on("989/999/9..");
        x.move(1);
        Check.say(x, "123");
        x.towers();
        String before = Check.state(x);
        x.wins();
        x.longest();
        x.shortest();
        x.high();
        x.free(0);
        x.towers();
        check.due("all behind them", Check.state(x), before);
    }
}
