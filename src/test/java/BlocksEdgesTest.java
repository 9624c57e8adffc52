/** The boundary cases that promises 7 to 17 name, a test for each; the sentence stands above it. */
public final class BlocksEdgesTest {
    private static final Check check = new Check();
    private static final int MIN = Integer.MIN_VALUE;
    private static final int MAX = Integer.MAX_VALUE;

    public static void main(String[] args) {
        check.runAll(BlocksEdgesTest.class);
    }

    // Promise 7: "NoSuchElementException: none there"
    static void p7NoneThere() {
        FelledHasLost x = Check.on("9.9/999");
        for (int b : new int[] {-1, 1, 6, 7, 8, 47, 48, MIN, MAX}) {
            for (int what = 0; what < 5; what++) {
                int asked = what;
                check.none("block(" + b + ", " + what + ")", () -> x.block(b, asked));
            }
        }
    }

    // "another what"
    static void p7AnotherWhat() {
        FelledHasLost x = Check.on("9.9/999");
        for (int what : new int[] {-1, 5, MIN, MAX}) {
            check.none("block(0, " + what + ")", () -> x.block(0, what));
            check.none("block(1, " + what + ")", () -> x.block(1, what));
        }
    }

    // "2: 1 if it is TIGHT"
    static void p7TightOrLoose() {
        FelledHasLost x = Check.on("899");
        check.due("the loose one", x.block(0, 2), 0);
        check.due("a tight one", x.block(1, 2), 1);
        check.due("another tight one", x.block(2, 2), 1);
    }

    // "3: how many BLOCKS lie in LAYERS above"
    static void p7BlocksAboveTheHighestAndTheLowest() {
        FelledHasLost x = Check.on(Check.layers(15) + "/.9.");
        check.due("the highest", x.block(46, 3), 0);
        check.due("the one below it", x.block(44, 3), 1);
        check.due("the lowest", x.block(0, 3), 43);
    }

    // "4: 1 if it can be DRAWN so that THE TOWER STANDS"
    static void p7DrawnOnTheEdge() {
        check.due("on the edge", Check.on("9.9/999", 5, 0).block(0, 4), 1);
        check.due("beyond it", Check.on("9.9/999", 4, 0).block(0, 4), 0);
    }

    static void p7DrawnTheLastOfItsLayer() {
        check.due("below others", Check.on(".9./999").block(1, 4), 0);
        check.due("on top", Check.on("999/.9.").block(4, 4), 0);
        check.due("alone", Check.on(".9.").block(1, 4), 0);
    }

    static void p7DrawnFromTheHighestLayer() {
        check.due("one of three", Check.on("999/999").block(3, 4), 1);
        check.due("one of one layer", Check.on("99.").block(0, 4), 1);
        check.due("the counterweight", Check.on(".9./999/9.9").block(6, 4), 1);
        check.due("the counterweight on a narrow one", Check.on(".0./.0./9.9").block(6, 4), 0);
    }

    // "(laid nowhere)"
    static void p7DrawnThoughItCannotBeLaid() {
        FelledHasLost x = Check.on(Check.layers(16));
        check.due("it cannot be laid", x.odds(10, 0), -2);
        check.due("it can be drawn", x.block(1, 4), 1);
        check.due("one of the highest", x.block(46, 4), 1);
        check.due("the tower", Check.told(x), Check.layers(16));
    }

    static void p7DrawnFromOneThatDoesNotStand() {
        FelledHasLost x = Check.on("9../999/999");
        check.due("it does not stand then either", x.block(4, 4), 0);
    }

    // Promise 8: "NoSuchElementException: none such"
    static void p8NoneSuch() {
        FelledHasLost x = Check.on("9.9/999");
        for (int l : new int[] {-1, 2, 15, 16, MIN, MAX}) {
            for (int what = 0; what < 7; what++) {
                int asked = what;
                check.none("layer(" + l + ", " + what + ")", () -> x.layer(l, asked));
            }
        }
        check.none("layer(0, 0) of no layers", () -> new FelledHasLost().layer(0, 0));
        check.none("layer(16, 0) of 16", () -> Check.on(Check.layers(16)).layer(16, 0));
    }

    // "another what"
    static void p8AnotherWhat() {
        FelledHasLost x = Check.on("9.9/999");
        for (int what : new int[] {-1, 7, MIN, MAX}) {
            check.none("layer(0, " + what + ")", () -> x.layer(0, what));
        }
    }

    static void p8TheHighest() {
        FelledHasLost x = Check.on("999/..3", 9, -9);
        long[] due = {1, 0, 0, 0, 2, 2, 4};
        for (int what = 0; what < 7; what++) {
            check.due("layer(1, " + what + ")", x.layer(1, what), due[what]);
        }
    }

    static void p8TheLowestOfSixteen() {
        FelledHasLost x = Check.on(Check.layers(16), 1, -1);
        check.due("W", x.layer(0, 1), 15 * 57);
        check.due("S", x.layer(0, 2), 57 * 120);
        check.due("S of the one above it", x.layer(1, 2), -57 * 105);
        check.due("MARGIN", x.layer(0, 3), 30 * 15 * 57 - 2 * 57 * 120);
    }

    static void p8TheLeastAndTheGreatestPlace() {
        String[] layers = {"9..", ".9.", "..9", "99.", ".99", "9.9", "999"};
        int[] least = {0, 1, 2, 0, 1, 0, 0};
        int[] greatest = {0, 1, 2, 1, 2, 2, 2};
        for (int i = 0; i < layers.length; i++) {
            FelledHasLost x = Check.on(layers[i]);
            check.due("the least of " + layers[i], x.layer(0, 4), least[i]);
            check.due("the greatest of " + layers[i], x.layer(0, 5), greatest[i]);
        }
    }

    // Only those whose LAYERS lie as it does count for S by their PLACES.
    static void p8LayersThatLieTheOtherWay() {
        FelledHasLost x = Check.on("999/..9/..9/..9");
        check.due("S of the lowest: the third one", x.layer(0, 2), 190);
        check.due("S of the second: the fourth one", x.layer(1, 2), 190);
        check.due("S of the third: none", x.layer(2, 2), 0);
    }

    // Promise 9: "THICKNESS of a BLOCK becomes v (0 .. 9): what it was."
    static void p9From0To9() {
        FelledHasLost x = Check.on("5.5");
        check.due("plane(0, 0)", x.plane(0, 0), 5);
        check.due("plane(2, 9)", x.plane(2, 9), 5);
        check.due("the same again", x.plane(2, 9), 9);
        check.due("the tower", Check.told(x), "0.9");
    }

    // "Refused: none there"
    static void p9NoneThere() {
        FelledHasLost x = Check.on("5.5/555");
        for (int b : new int[] {-1, 1, 6, 47, 48, MIN, MAX}) {
            check.due("plane(" + b + ", 3)", x.plane(b, 3), -1);
        }
        check.due("the tower", Check.told(x), "5.5/555");
    }

    // "another v"
    static void p9AnotherV() {
        FelledHasLost x = Check.on("5.5");
        for (int v : new int[] {-1, 10, MIN, MAX}) {
            check.due("plane(0, " + v + ")", x.plane(0, v), -1);
        }
        check.due("the tower", Check.told(x), "5.5");
    }

    static void p9WhoBearsAndWhatItWeighsChange() {
        FelledHasLost x = Check.on("999/999");
        x.plane(3, 0);
        check.due("W", x.layer(0, 1), 48);
        check.due("who bears", x.layer(1, 6), 6);
        check.due("the lean", x.lean(1), 9);
    }

    private static void sheet(int kind, int n, int f, int step, long due, String tower) {
        FelledHasLost x = Check.on("555");
        check.due("sheet(" + kind + ", " + n + ", " + f + ", " + step + ")", x.sheet(kind, n, f, step), due);
        check.due("the tower", Check.told(x), tower);
    }

    // Promise 10: "bytes (kind 0)" .. "of bytes, shorts the lowest bits, with their sign; put to 0 .. 9"
    static void p10BytesAtTheirEdges() {
        sheet(0, 3, 127, 0, 27, "999");
        sheet(0, 3, 128, 0, 0, "000");
        sheet(0, 3, 255, 0, 0, "000");
        sheet(0, 3, 256 + 5, 0, 15, "555");
        sheet(0, 3, -251, 0, 15, "555");
        sheet(0, 3, -128, 0, 0, "000");
        sheet(0, 3, -129, 0, 27, "999");
    }

    static void p10BytesWrapAround() {
        sheet(0, 3, 126, 1, 18, "990");
        sheet(0, 3, 255, 1, 1, "001");
        sheet(0, 3, MAX, 1, 1, "001");
    }

    // "shorts (1)"
    static void p10ShortsAtTheirEdges() {
        sheet(1, 3, 32767, 0, 27, "999");
        sheet(1, 3, 32768, 0, 0, "000");
        sheet(1, 3, 65535, 0, 0, "000");
        sheet(1, 3, 65536 + 5, 0, 15, "555");
        sheet(1, 3, -65531, 0, 15, "555");
        sheet(1, 3, -32769, 0, 27, "999");
        sheet(1, 3, 256 + 5, 0, 27, "999");
    }

    static void p10ShortsWrapAround() {
        sheet(1, 3, 32766, 1, 18, "990");
        sheet(1, 3, 65535, 1, 1, "001");
    }

    // "ints (2)"
    static void p10IntsAtTheirEdges() {
        sheet(2, 3, MAX, 0, 27, "999");
        sheet(2, 3, MIN, 0, 0, "000");
        sheet(2, 3, 65536, 0, 27, "999");
        sheet(2, 3, -251, 0, 0, "000");
    }

    static void p10IntsWrapAround() {
        sheet(2, 3, MAX, 1, 9, "900");
        sheet(2, 3, MIN, -1, 18, "099");
        sheet(2, 3, 5, MIN, 10, "505");
    }

    // "put to 0 .. 9"
    static void p10PutTo0To9() {
        sheet(2, 3, 8, 1, 26, "899");
        sheet(2, 3, 1, -1, 1, "100");
        sheet(0, 3, 10, -10, 9, "900");
        sheet(1, 3, 0, 9, 18, "099");
    }

    // "those behind it are 0"
    static void p10ThoseBehindItAre0() {
        sheet(2, 0, 7, 1, 0, "000");
        sheet(2, 1, 7, 1, 7, "700");
        sheet(2, 2, 7, 1, 15, "780");
    }

    static void p10MoreEntriesThanBlocks() {
        sheet(2, 3, 2, 1, 9, "234");
        sheet(2, 4, 2, 1, 9, "234");
        sheet(2, 48, 2, 1, 9, "234");
    }

    // "n above 48"
    static void p10FortyEightEntries() {
        FelledHasLost x = Check.on(Check.layers(16));
        check.due("47", x.sheet(2, 47, -40, 1), 21);
        check.due("the last one", x.block(47, 0), 0);
        check.due("48", x.sheet(2, 48, -40, 1), 28);
        check.due("the last one", x.block(47, 0), 7);
        check.due("the first one", x.block(0, 0), 0);
        check.due("49", x.sheet(2, 49, 5, 0), -1);
        check.due("the last one", x.block(47, 0), 7);
    }

    // "THICKNESSES of BLOCKS that are there, by their numbers"
    static void p10GapsTakeNone() {
        FelledHasLost x = Check.on("5.5/.5.");
        check.due("sheet(2, 2, 1, 1)", x.sheet(2, 2, 1, 1), 3);
        check.due("the tower", Check.told(x), "1.2/.0.");
        check.due("sheet(2, 3, 1, 1)", x.sheet(2, 3, 1, 1), 6);
        check.due("the tower", Check.told(x), "1.2/.3.");
    }

    static void p10NoLayers() {
        FelledHasLost x = new FelledHasLost();
        check.due("sheet(2, 48, 9, 0)", x.sheet(2, 48, 9, 0), 0);
        check.due("sheet(3, 0, 0, 0)", x.sheet(3, 0, 0, 0), -3);
        check.due("layers", x.count(0), 0);
        check.due("blocks", x.count(1), 0);
    }

    static void p10WhoBearsChanges() {
        FelledHasLost x = Check.on("999/999");
        x.sheet(2, 6, 1, 1);
        check.due("who bears", x.layer(0, 6), 6);
        check.due("W", x.layer(0, 1), 30 + 4 + 5 + 6);
    }

    // "-2: n below 0 (of kinds 0 .. 2; nothing changes)"
    static void p10NBelow0() {
        for (int kind = 0; kind < 3; kind++) {
            sheet(kind, -1, 7, 1, -2, "555");
            sheet(kind, MIN, 7, 1, -2, "555");
        }
    }

    // "-3: missing (all 0)"
    static void p10Missing() {
        sheet(3, 0, 7, 1, -3, "000");
        sheet(3, 48, 7, 1, -3, "000");
        sheet(3, 3, 7, 1, -3, "000");
    }

    static void p10MissingWithNBelow0() {
        sheet(3, -1, 7, 1, -3, "000");
        sheet(3, MIN, 7, 1, -3, "000");
    }

    // "NONE: another kind"
    static void p10AnotherKind() {
        sheet(-1, 3, 7, 1, -1, "555");
        sheet(4, 3, 7, 1, -1, "555");
        sheet(MIN, 3, 7, 1, -1, "555");
        sheet(MAX, 3, 7, 1, -1, "555");
    }

    static void p10NAbove48() {
        for (int kind = 0; kind < 4; kind++) {
            sheet(kind, 49, 7, 1, -1, "555");
            sheet(kind, MAX, 7, 1, -1, "555");
        }
    }

    // "(these first)"
    static void p10AnotherKindWithNBelow0() {
        sheet(-1, -1, 7, 1, -1, "555");
        sheet(4, -1, 7, 1, -1, "555");
    }

    // Promise 11: "becomes v (-9 .. 9): true"
    static void p11FromMinus9To9() {
        FelledHasLost x = new FelledHasLost();
        for (int v : new int[] {-9, 9, 0}) {
            check.due("table(0, " + v + ")", x.table(0, v), true);
            check.due("along", x.count(7), v);
            check.due("table(1, " + v + ")", x.table(1, -v), true);
            check.due("across", x.count(8), -v);
        }
    }

    // "Refused: others."
    static void p11AnotherV() {
        FelledHasLost x = Check.on("", 4, -4);
        for (int v : new int[] {-10, 10, MIN, MAX}) {
            check.due("table(0, " + v + ")", x.table(0, v), false);
            check.due("table(1, " + v + ")", x.table(1, v), false);
        }
        check.due("along", x.count(7), 4);
        check.due("across", x.count(8), -4);
    }

    static void p11AnotherWhich() {
        FelledHasLost x = Check.on("", 4, -4);
        for (int which : new int[] {-1, 2, MIN, MAX}) {
            check.due("table(" + which + ", 1)", x.table(which, 1), false);
        }
        check.due("along", x.count(7), 4);
        check.due("across", x.count(8), -4);
    }

    private static void swell(String tower, int layer, int by, int due, String then) {
        FelledHasLost x = Check.on(tower);
        check.due("swell(" + layer + ", " + by + ") of " + tower, x.swell(layer, by), due);
        check.due("the tower", Check.told(x), then);
    }

    // Promise 12: "each BLOCK of a LAYER has by hairs (-9 .. 9) more"
    static void p12By9AndMinus9() {
        swell("000/555", 0, 9, 3, "999/555");
        swell("999/555", 0, -9, 3, "000/555");
        swell("555/012", 1, 7, 3, "555/789");
    }

    // "put to 0 .. 9"
    static void p12PutTo0To9() {
        swell("678", 0, 2, 3, "899");
        swell("321", 0, -2, 3, "100");
        swell("159", 0, 9, 2, "999");
        swell("048", 0, -9, 2, "000");
    }

    // "how many changed"
    static void p12ThoseThatDoNotChange() {
        swell("999", 0, 1, 0, "999");
        swell("000", 0, -1, 0, "000");
        swell("123", 0, 0, 0, "123");
        swell("909", 0, 1, 1, "919");
    }

    static void p12GapsDoNotSwell() {
        swell(".5.", 0, 1, 1, ".6.");
        swell("..0", 0, -1, 0, "..0");
    }

    // "Refused: none such"
    static void p12NoneSuch() {
        for (int l : new int[] {-1, 2, 16, MIN, MAX}) {
            swell("555/555", l, 1, -1, "555/555");
        }
        check.due("of no layers", new FelledHasLost().swell(0, 1), -1);
        swell(Check.layers(16), 16, -1, -1, Check.layers(16));
    }

    // "others"
    static void p12AnotherBy() {
        for (int by : new int[] {-10, 10, MIN, MAX}) {
            swell("555", 0, by, -1, "555");
        }
    }

    private static void bump(int seed, int along, int across) {
        FelledHasLost x = new FelledHasLost();
        check.due("bump(" + seed + ")", x.bump(seed), 1);
        check.due("along by " + seed, x.count(7), along);
        check.due("across by " + seed, x.count(8), across);
    }

    // Promise 13: "by two DRAWS of 19 TILT along, then across, become what was drawn less 9"
    static void p13FromMinus9To9() {
        bump(18, -9, 9);
        bump(105, 9, -9);
        bump(263, 9, 9);
        bump(402, -9, -9);
        bump(1543, 0, 0);
    }

    // "(as ints; R is seed at first)" (a wrap-around)
    static void p13SeedsAtTheirEdges() {
        bump(0, -9, 1);
        bump(1, -5, 4);
        bump(-1, -9, -8);
        bump(MAX, -2, 4);
        bump(MIN, 3, 8);
    }

    // "(R without sign, by 65536) % n": seeds by which R is -1, the least int and the greatest
    static void p13RWithoutSign() {
        bump(230538014, -5, -9);
        bump(2088216195, 3, 3);
        bump(-1916945634, 2, -2);
    }

    // "1 if THE TOWER STANDS then, else 0"
    static void p13StandsOnTheEdge() {
        check.due("on the right edge", Check.on(".9./.0.").bump(337), 1);
        check.due("beyond it", Check.on(".9./.0.").bump(1840), 0);
        check.due("on the left edge", Check.on(".9./.0.").bump(459), 1);
        check.due("beyond it", Check.on(".9./.0.").bump(1836), 0);
    }

    static void p13ItIsNotFelledByThat() {
        FelledHasLost x = Check.on(".9./.0.");
        check.due("bump(1840)", x.bump(1840), 0);
        check.due("felled", x.count(5), 0);
        check.due("to be undone", x.count(9), 0);
    }

    private static void stands(FelledHasLost x, int due, long first, long least) {
        x.loose();
        check.due("stands()", x.stands(), due);
        check.row("stands()", x, first, least);
    }

    // Promise 14: "(NONE: none)" and "(0 for less than two LAYERS)"
    static void p14NoLayers() {
        stands(new FelledHasLost(), 1, -1, 0);
        stands(Check.on("", 9, 9), 1, -1, 0);
    }

    static void p14OneLayer() {
        stands(Check.on("999"), 1, -1, 0);
        stands(Check.on("..9", -9, 9), 1, -1, 0);
    }

    static void p14TwoLayers() {
        stands(Check.on("999/999"), 1, -1, 1710);
        stands(Check.on("9../999"), 0, 0, -570);
    }

    static void p14OnTheEdge() {
        stands(Check.on(".9./.0.", 5, 0), 1, -1, 0);
        stands(Check.on(".9./.0.", 6, 0), 0, 0, -20);
    }

    // "the first LAYER with a MARGIN below 0": not the one with the least
    static void p14TheFirstIsNotTheLeast() {
        stands(Check.on("9../9../999", -2, 0), 0, 0, -570);
    }

    static void p14TheFirstIsNotTheLowest() {
        stands(Check.on(".9./9../999"), 0, 1, -570);
    }

    // Promise 15: "How many BLOCKS are LOOSE; the ROW: of each LAYER from below PLACES of them (bits)."
    static void p15NoLayers() {
        FelledHasLost x = new FelledHasLost();
        x.stands();
        check.due("loose()", x.loose(), 0);
        check.row("loose()", x);
    }

    static void p15NoneAndTwoOfALayer() {
        FelledHasLost x = Check.on("999/191/.98/9..");
        x.stands();
        check.due("loose()", x.loose(), 3);
        check.row("loose()", x, 0, 5, 4, 0);
    }

    static void p15SixteenLayers() {
        FelledHasLost x = Check.on("191/".repeat(15) + "899");
        check.due("loose()", x.loose(), 31);
        check.row("loose()", x, 5, 5, 5, 5, 5, 5, 5, 5, 5, 5, 5, 5, 5, 5, 5, 1);
    }

    // Promise 16: "-2: less than two LAYERS."
    static void p16LessThanTwoLayers() {
        check.due("none", new FelledHasLost().weakest(), -2);
        check.due("one", Check.on("999").weakest(), -2);
    }

    static void p16TwoLayers() {
        FelledHasLost x = Check.on("999/999");
        x.stands();
        check.due("weakest()", x.weakest(), 0);
        check.row("weakest()", x, 1710);
    }

    // "of equal ones the lowest"
    static void p16OfEqualOnesTheLowest() {
        FelledHasLost x = Check.on(".9./9.9/.9.");
        check.due("the margins are equal", x.layer(0, 3), x.layer(1, 3));
        check.due("weakest()", x.weakest(), 0);
        check.row("weakest()", x, 570);
    }

    // "The LAYER below the highest": its 0 does not count
    static void p16TheHighestDoesNotCount() {
        FelledHasLost x = Check.on("999/999/999/999");
        check.due("weakest()", x.weakest(), 2);
        check.row("weakest()", x, 1710);
    }

    static void p16BelowAndOnTheEdge() {
        FelledHasLost x = Check.on(".9./.0.", 5, 0);
        check.due("on the edge", x.weakest(), 0);
        check.row("on the edge", x, 0);
        x.table(0, 6);
        check.due("beyond it", x.weakest(), 0);
        check.row("beyond it", x, -20);
    }

    // Promise 17: "-100000: another which."
    static void p17AnotherWhich() {
        FelledHasLost x = Check.on("999/999");
        x.stands();
        for (int which : new int[] {-1, 2, MIN, MAX}) {
            check.due("lean(" + which + ")", x.lean(which), -100000);
        }
        check.row("what was told ahead of it", x, -1, 1710);
    }

    static void p17NoLayers() {
        FelledHasLost x = new FelledHasLost();
        for (int which = 0; which < 2; which++) {
            x.stands();
            check.due("lean(" + which + ")", x.lean(which), 0);
            check.row("lean(" + which + ")", x, 0);
        }
    }

    static void p17NoLayersBehindHigherOnes() {
        FelledHasLost x = Check.on("9../..9/9..");
        Check.tower(x, "9..");
        check.due("lean(0)", x.lean(0), -19);
        check.row("lean(0)", x, 19);
        check.due("lean(1)", x.lean(1), 0);
        Check.tower(x, "");
        check.due("lean(0) of none", x.lean(0), 0);
        check.row("lean(0) of none", x, 0);
    }

    // "(below 0: to the left)"
    static void p17ToTheLeftAndToTheRight() {
        FelledHasLost x = Check.on("9../..5/3.8/1.1");
        check.due("lean(0)", x.lean(0), -19 - 13 + 18);
        check.row("lean(0)", x, 19 + 15 + 13 + 18 + 11 + 11);
        check.due("lean(1)", x.lean(1), 15);
        check.row("lean(1)", x, 87);
    }

    static void p17TheMiddleDoesNotLean() {
        FelledHasLost x = Check.on(".9./.9.", 9, 9);
        check.due("lean(0)", x.lean(0), 0);
        check.due("lean(1)", x.lean(1), 0);
        check.row("lean(1)", x, 38);
    }
}
