/** The boundary cases that promises 35 to 41 name, a test for each; the sentence stands above it. */
public final class FeltEdgesTest {
    private static final Check check = new Check();
    private static final int MIN = Integer.MIN_VALUE;
    private static final int MAX = Integer.MAX_VALUE;

    public static void main(String[] args) {
        check.runAll(FeltEdgesTest.class);
    }

    // Promise 35: "how many touches were told"
    static void p35HowMany() {
        FelledHasLost x = Check.on("999/999");
        check.due("the first", x.felt(0, 1), 1);
        check.due("the same again", x.felt(0, 1), 2);
        check.due("what it can't be as well", x.felt(0, 0), 3);
        check.due("of another layer", x.felt(5, 0), 4);
        check.due("touches", x.count(10), 4);
    }

    // "Refused: none there"
    static void p35NoneThere() {
        FelledHasLost x = Check.on("9.9/999");
        for (int b : new int[] {-1, 1, 6, 47, 48, MIN, MAX}) {
            check.due("felt(" + b + ", 1)", x.felt(b, 1), -1);
            check.due("felt(" + b + ", 0)", x.felt(b, 0), -1);
        }
        check.due("touches", x.count(10), 0);
    }

    // "others"
    static void p35NeitherTightNorLoose() {
        FelledHasLost x = Check.on("9.9");
        for (int tight : new int[] {-1, 2, MIN, MAX}) {
            check.due("felt(0, " + tight + ")", x.felt(0, tight), -1);
        }
        check.due("touches", x.count(10), 0);
        check.due("fits(0)", x.fits(0), 100);
    }

    // "20"
    static void p35TwentyAreTheMost() {
        FelledHasLost x = Check.on("999/999");
        for (int n = 1; n < 20; n++) {
            check.due("felt " + n, x.felt(3, 1), n);
        }
        check.due("fits(0) ahead of the 20th", x.fits(0), 1000);
        check.due("the 20th", x.felt(0, 0), 20);
        check.due("it counts", x.fits(0), 450);
        check.due("the 21st", x.felt(0, 1), -1);
        check.due("it does not", x.fits(0), 450);
        check.due("touches", x.count(10), 20);
    }

    static void p35TwentyMoreBehindForget() {
        FelledHasLost x = Check.on("999");
        for (int n = 1; n <= 20; n++) {
            x.felt(0, 1);
        }
        check.due("forget()", x.forget(), 20);
        check.due("felt again", x.felt(0, 0), 1);
    }

    // Promise 36: "is known to be from low to high (0 .. 9; first all): true"
    static void p36FirstAll() {
        FelledHasLost x = Check.on("9.9");
        check.due("span(0)", x.span(0), 1023);
    }

    static void p36From0To9() {
        FelledHasLost x = Check.on("9.9");
        check.due("known(0, 0, 9)", x.known(0, 0, 9), true);
        check.due("span(0)", x.span(0), 1023);
        check.due("known(2, 0, 0)", x.known(2, 0, 0), true);
        check.due("span(2)", x.span(2), 1);
        check.due("known(2, 9, 9)", x.known(2, 9, 9), true);
        check.due("span(2)", x.span(2), 512);
        check.due("known(2, 4, 5)", x.known(2, 4, 5), true);
        check.due("span(2)", x.span(2), 48);
    }

    // "Refused: none there"
    static void p36NoneThere() {
        FelledHasLost x = Check.on("9.9/999");
        for (int b : new int[] {-1, 1, 6, 47, 48, MIN, MAX}) {
            check.due("known(" + b + ", 1, 2)", x.known(b, 1, 2), false);
        }
    }

    // "low above high"
    static void p36LowAboveHigh() {
        FelledHasLost x = Check.on("9.9");
        check.due("known(0, 1, 0)", x.known(0, 1, 0), false);
        check.due("known(0, 9, 8)", x.known(0, 9, 8), false);
        check.due("known(0, 9, 0)", x.known(0, 9, 0), false);
        check.due("span(0)", x.span(0), 1023);
    }

    // "others"
    static void p36Others() {
        FelledHasLost x = Check.on("9.9");
        int[][] others = {{-1, 9}, {-1, -1}, {0, 10}, {10, 10}, {MIN, 5}, {5, MAX}, {MIN, MAX}, {9, 10}, {-1, 0}};
        for (int[] o : others) {
            check.due("known(0, " + o[0] + ", " + o[1] + ")", x.known(0, o[0], o[1]), false);
        }
        check.due("span(0)", x.span(0), 1023);
    }

    static void p36TheLastBlock() {
        FelledHasLost x = Check.on(Check.layers(16));
        check.due("known(47, 3, 4)", x.known(47, 3, 4), true);
        check.due("span(47)", x.span(47), 24);
        check.due("span(44)", x.span(44), 1023);
        check.due("known(48, 3, 4)", x.known(48, 3, 4), false);
    }

    static void p36ItIsNoTouch() {
        FelledHasLost x = Check.on("9.9");
        x.known(0, 1, 2);
        check.due("touches", x.count(10), 0);
    }

    // Promise 37: "All that was felt and known is forgotten: how many touches there were."
    static void p37NoTouches() {
        FelledHasLost x = Check.on("999");
        check.due("forget()", x.forget(), 0);
        x.known(0, 4, 4);
        check.due("forget() of what is known alone", x.forget(), 0);
        check.due("span(0)", x.span(0), 1023);
        check.due("of no layers", new FelledHasLost().forget(), 0);
    }

    static void p37OfAllLayers() {
        FelledHasLost x = Check.on(Check.layers(16));
        x.felt(0, 0);
        x.felt(47, 0);
        x.known(1, 9, 9);
        x.known(46, 0, 0);
        check.due("forget()", x.forget(), 2);
        check.due("fits(0)", x.fits(0), 1000);
        check.due("fits(15)", x.fits(15), 1000);
        check.due("forget() again", x.forget(), 0);
    }

    // Promise 38: "NONE: none such."
    static void p38NoneSuch() {
        FelledHasLost x = Check.on("999/999");
        x.stands();
        for (int l : new int[] {-1, 2, 15, 16, MIN, MAX}) {
            check.due("fits(" + l + ")", x.fits(l), -1);
        }
        check.row("what was told ahead of it", x, -1, 1710);
        check.due("of no layers", new FelledHasLost().fits(0), -1);
    }

    // "Rows of THICKNESSES (0 .. 9) that BLOCKS of a LAYER can have"
    static void p38AllOfThreeTwoAndOne() {
        FelledHasLost x = Check.on("999/9.9/.9.");
        x.loose();
        check.due("three", x.fits(0), 1000);
        check.row("three", x, 0, 0, 0, 9, 9, 9);
        check.due("two", x.fits(1), 100);
        check.row("two", x, 0, 0, 9, 9);
        check.due("one", x.fits(2), 10);
        check.row("one", x, 0, 9);
    }

    // "the ROW: the least such row, the greatest"
    static void p38OneRow() {
        FelledHasLost x = Check.on("999");
        x.known(0, 1, 1);
        x.known(1, 2, 2);
        x.known(2, 3, 3);
        check.due("fits(0)", x.fits(0), 1);
        check.row("fits(0)", x, 1, 2, 3, 1, 2, 3);
    }

    static void p38TheLeastAndTheGreatest() {
        FelledHasLost x = Check.on("999");
        x.felt(0, 0);
        check.due("fits(0)", x.fits(0), 450);
        check.row("fits(0)", x, 0, 1, 0, 8, 9, 9);
        x.felt(1, 0);
        check.due("two are loose", x.fits(0), 0);
    }

    // "(by PLACES that are there; none without)"
    static void p38NothingFits() {
        FelledHasLost x = Check.on("999");
        x.felt(0, 1);
        x.felt(0, 0);
        x.stands();
        check.due("fits(0)", x.fits(0), 0);
        check.row("fits(0)", x);
    }

    static void p38NothingFitsByWhatIsKnown() {
        FelledHasLost x = Check.on("99.");
        x.felt(0, 0);
        x.known(0, 5, 9);
        x.known(1, 0, 5);
        check.due("5 and 5 are equal", x.fits(0), 0);
        x.known(1, 0, 6);
        check.due("5 and 6 are not", x.fits(0), 1);
        check.row("5 and 6", x, 5, 6, 5, 6);
    }

    static void p38OtherLayersDoNotMatter() {
        FelledHasLost x = Check.on("999/999");
        x.felt(2, 0);
        x.felt(2, 1);
        x.known(3, 5, 5);
        check.due("fits(0)", x.fits(0), 0);
        check.due("fits(1)", x.fits(1), 100);
    }

    // "A LAYER of one: it BEARS"
    static void p38OneAloneIsTight() {
        FelledHasLost x = Check.on(".9.");
        x.felt(1, 1);
        check.due("tight", x.fits(0), 10);
        x.felt(1, 0);
        check.due("loose", x.fits(0), 0);
    }

    static void p38TwoAtTheSidesAreTight() {
        FelledHasLost x = Check.on("9.9");
        x.felt(0, 1);
        x.felt(2, 1);
        check.due("tight", x.fits(0), 100);
        x.felt(2, 0);
        check.due("loose", x.fits(0), 0);
    }

    static void p38TheHighestOfSixteen() {
        FelledHasLost x = Check.on(Check.layers(16));
        x.felt(47, 0);
        check.due("fits(15)", x.fits(15), 450);
        check.due("fits(14)", x.fits(14), 1000);
    }

    // Promise 39: "THICKNESSES (bits) that a BLOCK can have by these."
    static void p39TheLeastAndTheGreatestBit() {
        FelledHasLost x = Check.on("99.");
        x.felt(0, 0);
        check.due("it is not 9", x.span(0), 511);
        check.due("it is not 0", x.span(1), 1022);
    }

    static void p39NothingFits() {
        FelledHasLost x = Check.on("99.");
        x.felt(1, 0);
        x.stands();
        check.due("span(0)", x.span(0), 0);
        check.due("span(1)", x.span(1), 0);
        check.row("what was told ahead of it", x, -1, 0);
    }

    // "NONE: none there."
    static void p39NoneThere() {
        FelledHasLost x = Check.on("9.9/999");
        for (int b : new int[] {-1, 1, 6, 47, 48, MIN, MAX}) {
            check.due("span(" + b + ")", x.span(b), -1);
        }
        check.due("of no layers", new FelledHasLost().span(0), -1);
    }

    // Promise 40: "1: in all"
    static void p40InAll() {
        FelledHasLost x = Check.on("9.9/.9.");
        x.loose();
        check.due("two at the sides", x.sure(0), 1);
        check.row("two at the sides", x, 100, 100);
        check.due("one alone", x.sure(4), 1);
        check.row("one alone", x, 10, 10);
    }

    // "0: in none"
    static void p40InNone() {
        FelledHasLost x = Check.on("999");
        x.felt(2, 0);
        x.stands();
        check.due("sure(2)", x.sure(2), 0);
        check.row("sure(2)", x, 0, 450);
    }

    // "2: in some"
    static void p40InSome() {
        FelledHasLost x = Check.on("99.");
        x.loose();
        check.due("sure(0)", x.sure(0), 2);
        check.row("sure(0)", x, 55, 100);
        x.known(0, 8, 8);
        x.known(1, 8, 9);
        check.due("in one of two", x.sure(0), 2);
        check.row("in one of two", x, 1, 2);
        x.known(1, 9, 9);
        check.due("in none of one", x.sure(0), 0);
        check.row("in none of one", x, 0, 1);
        x.known(1, 8, 8);
        check.due("in one of one", x.sure(0), 1);
        check.row("in one of one", x, 1, 1);
    }

    // "-2: nothing fits"
    static void p40NothingFits() {
        FelledHasLost x = Check.on("99.");
        x.felt(1, 0);
        x.stands();
        check.due("sure(0)", x.sure(0), -2);
        check.due("sure(1)", x.sure(1), -2);
        check.due("a gap", x.sure(2), -1);
        check.row("what was told ahead of it", x, -1, 0);
    }

    // "NONE: none there."
    static void p40NoneThere() {
        FelledHasLost x = Check.on("9.9/999");
        x.stands();
        for (int b : new int[] {-1, 1, 6, 47, 48, MIN, MAX}) {
            check.due("sure(" + b + ")", x.sure(b), -1);
        }
        check.row("what was told ahead of it", x, -1, 1710);
    }

    // Promise 41: "so that, whatever is felt, the fewest rows are left at most"
    static void p41TheFewestAtMost() {
        FelledHasLost x = Check.on("999");
        x.felt(0, 0);
        x.stands();
        check.due("touch(0)", x.touch(0), 2);
        check.row("touch(0)", x, 285);
    }

    static void p41HalfOfThem() {
        FelledHasLost x = Check.on("99.");
        x.known(0, 8, 8);
        x.known(1, 8, 9);
        check.due("touch(0)", x.touch(0), 0);
        check.row("touch(0)", x, 1);
    }

    // "of equal ones the first"
    static void p41OfEqualOnesTheFirst() {
        FelledHasLost x = Check.on("999/9.9/.99");
        check.due("the left one and the right one", x.touch(0), 0);
        check.row("the left one and the right one", x, 550);
        check.due("both say nothing", x.touch(1), 3);
        check.row("both say nothing", x, 100);
        check.due("not the first", x.touch(2), 8);
        check.row("not the first", x, 55);
    }

    static void p41AGapIsNotTouched() {
        FelledHasLost x = Check.on("..9/.9./.9.");
        check.due("touch(0)", x.touch(0), 2);
        check.row("touch(0)", x, 10);
        check.due("touch(2)", x.touch(2), 7);
        check.row("touch(2)", x, 10);
    }

    // "-2: nothing fits"
    static void p41NothingFits() {
        FelledHasLost x = Check.on("99./999");
        x.felt(1, 0);
        x.stands();
        check.due("touch(0)", x.touch(0), -2);
        check.row("what was told ahead of it", x, -1, 570);
        check.due("touch(1)", x.touch(1), 3);
    }

    // "NONE: none such."
    static void p41NoneSuch() {
        FelledHasLost x = Check.on("999/999");
        x.stands();
        for (int l : new int[] {-1, 2, 15, 16, MIN, MAX}) {
            check.due("touch(" + l + ")", x.touch(l), -1);
        }
        check.row("what was told ahead of it", x, -1, 1710);
        check.due("of no layers", new FelledHasLost().touch(0), -1);
    }

    static void touchesOfAGapDoNotMatter() {
        FelledHasLost x = Check.on("999/999/999");
        x.felt(0, 1);
        x.known(0, 7, 7);
        x.move(0);
        check.due("touches", x.count(10), 1);
        check.due("fits(0)", x.fits(0), 100);
        check.due("span(0)", x.span(0), -1);
        x.undo();
        check.due("span(0) when it is undone", x.span(0), 128);
    }
}
