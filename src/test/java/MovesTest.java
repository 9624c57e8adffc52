import java.util.ArrayList;
import java.util.List;

/** Promises 18 to 26: moves, their odds, doing and undoing them, and why it fell. */
public final class MovesTest {
    private static final Check check = new Check();
    private static final String FIFTEEN = "999/999/999/999/999/999/999/999/999/999/999/999/999/999/999";

    public static void main(String[] args) {
        counted();
        odds();
        best();
        leave();
        where();
        moved();
        fellByLastBlock();
        fellWhenDrawn();
        fellWhenLaid();
        felledStaysSo();
        felledAndStanding();
        playSigns();
        played();
        undone();
        undoneByPlayers();
        atMostFifteen();
        check.finish();
    }

    private static void counted() {
        String[] towers = {"", "999", "999/999", "999/999/9..", "999/999/999/9..", ".9./999", "..9/999", FIFTEEN + "/999", FIFTEEN + "/9..", FIFTEEN,
            "9.9/999"};
        long[][] rows = {{-1, -1, 0}, {-1, -1, 0}, {0, 22, 9}, {1, 22, 6}, {1, 52, 12}, {-1, -1, 3}, {-1, -1, 3}, {-1, -1, 0}, {1, 412, 84},
            {0, 412, 126}, {-1, -1, 6}};
        long[] due = {0, 0, 9, 6, 12, 0, 0, 0, 84, 126, 0};
        for (int i = 0; i < towers.length; i++) {
            FelledHasLost x = Check.on(towers[i]);
            check.due("moves() of " + towers[i], x.moves(), due[i]);
            check.row("moves() of " + towers[i], x, rows[i]);
            check.due("the tower stays", Check.told(x), towers[i]);
        }
    }

    private static void odds() {
        FelledHasLost x = Check.on("999/999/9..");
        int[] cannot = {-1, 0, 3, 9, 13, 30, 31, 61, 71, 90, 91, 480, 4799, Integer.MIN_VALUE, Integer.MAX_VALUE};
        for (int m : cannot) {
            check.due("odds(" + m + ", 0)", x.odds(m, 0), -2);
            check.due("odds(" + m + ", 1)", x.odds(m, 1), -2);
            check.due("odds(" + m + ", 2)", x.odds(m, 2), -1);
        }
        check.due("the row stays", x.count(11), 0);
        check.due("odds(1, -1)", x.odds(1, -1), -1);
        check.due("odds(1, 0)", x.odds(1, 0), 1);
        check.row("odds(1, 0)", x, 1);
        x = Check.on("9.9/999");
        Check.rule(x, "7");
        check.due("odds of one that is not safe", x.odds(0, 0), 100);
        check.row("odds of one that is not safe", x, 0);
        x = Check.on("..9/999");
        check.due("odds of the last of a layer", x.odds(20, 1), 100);
        check.row("odds of the last of a layer", x, 0);
    }

    private static void best() {
        String[] rules = {"", "9-j*4", "5+(p=j)", "9-p", "9-q", "50-l*10-p-j", "3"};
        long[] due = {0, 0, 10, 20, 2, 50, 0};
        long[][] rows = {{1, 0}, {5, 1}, {5, 0}, {7, 0}, {7, 0}, {37, 1}, {3, 0}};
        for (int i = 0; i < rules.length; i++) {
            FelledHasLost x = Check.on("999/999/999");
            Check.rule(x, rules[i]);
            check.due("best() by " + rules[i], x.best(), due[i]);
            check.row("best() by " + rules[i], x, rows[i]);
        }
        FelledHasLost x = Check.on("9.9/999");
        check.due("best() of none", x.best(), -2);
        check.due("no row", x.count(11), 0);
    }

    private static void leave() {
        FelledHasLost x = Check.on("999/999");
        check.due("leave()", x.leave(), 10);
        check.row("leave()", x, 0, 1);
        Check.rule(x, "9-q-j*9");
        check.due("leave() by odds pulled", x.leave(), 12);
        check.row("leave() by odds pulled", x, 0, 7);
        x = Check.on("999/999/999");
        check.due("leave() of three layers", x.leave(), x.leave());
        int fewest = x.leave();
        long left = x.row(0);
        for (int m = 0; m < 90; m++) {
            if (x.odds(m, 0) >= 0 && x.odds(m, 0) < 100) {
                x.move(m);
                int then = x.moves();
                check.due("fewer are left by " + m, then < left || then == left && m < fewest, false);
                x.undo();
            }
        }
        check.due("leave() of none", Check.on("9.9/999").leave(), -2);
    }

    private static void where() {
        FelledHasLost x = Check.on("999/999");
        check.due("where(0)", x.where(0), 1);
        check.row("where(0)", x, 570);
        check.due("where(2)", x.where(2), 0);
        check.row("where(2)", x, 570);
        check.due("where() of the highest", x.where(3), -2);
        check.due("where() of none", x.where(6), -1);
        check.due("where(-1)", x.where(-1), -1);
        check.due("where(48)", x.where(48), -1);
        check.due("the row stays", x.row(0), 570);
        x = Check.on("999/999/9..");
        check.due("where there is a gap", x.where(1), 1);
        check.due("where() below the highest", x.where(4), -2);
        check.due("where() of the last", Check.on(".9./999").where(1), -2);
        check.due("where() of a gap", Check.on(".9./999").where(0), -1);
        x = Check.on("998/.0./.0.");
        x.table(0, -1);
        check.due("where it stands alone", x.where(0), 2);
        x.table(0, 0);
        check.due("where it stands best", x.where(0), 0);
        check.row("where it stands best", x, 10);
    }

    private static void moved() {
        FelledHasLost x = Check.on("123/456/789");
        check.due("move(10)", x.move(10), 1);
        check.due("the tower", Check.told(x), "1.3/456/789/2..");
        check.due("to move", x.count(4), 1);
        check.due("not felled", x.count(5), 0);
        check.due("undo", x.count(9), 1);
        check.due("move(30) is not of a gap", x.move(30), -2);
        check.due("move(62), the one below the highest", x.move(62), -2);
        check.due("move(92), the highest", x.move(92), -2);
        check.due("move(11), none there", x.move(11), -2);
        for (int m : new int[] {-1, 3, 9, 480, Integer.MIN_VALUE, Integer.MAX_VALUE}) {
            check.due("move(" + m + ")", x.move(m), -2);
        }
        check.due("the tower stays", Check.told(x), "1.3/456/789/2..");
        check.due("undo stays", x.count(9), 1);
        check.due("move(42)", x.move(42), 1);
        check.due("the tower", Check.told(x), "1.3/4.6/789/2.5");
        check.due("to move again", x.count(4), 0);
        x = Check.on(FIFTEEN + "/999");
        check.due("a seventeenth layer", x.move(10), -2);
        x = Check.on(FIFTEEN + "/99.");
        check.due("the last gap", x.move(12), 1);
        check.due("no gap more", x.move(40), -2);
    }

    private static void fellByLastBlock() {
        FelledHasLost x = Check.on(".9./999");
        check.due("move(11)", x.move(11), 0);
        check.due("why()", x.why(), 1);
        check.row("why()", x, 0, 0);
        check.due("it is there yet", Check.told(x), ".9./999");
        x = Check.on("999/.9./999");
        Check.players(x, "111");
        x.move(0);
        x.undo();
        check.due("move(40)", x.move(40), 0);
        check.due("why()", x.why(), 1);
        check.row("why()", x, 1, 0);
    }

    private static void fellWhenDrawn() {
        FelledHasLost x = Check.on("9.9/999");
        Check.players(x, "11");
        check.due("move(0)", x.move(0), 0);
        check.due("why()", x.why(), 2);
        check.row("why()", x, 0, -570);
        check.due("it is gone", Check.told(x), "..9/999");
        check.due("felled", x.count(5), 1);
        check.due("by", x.count(6), 0);
        check.due("the next one", x.count(4), 1);
        check.due("stands()", x.stands(), 0);
        check.due("blocks", x.count(1), 4);
        x.table(0, 9);
        x.plane(2, 0);
        x.plane(3, 0);
        check.due("why() is as it fell", x.why(), 2);
        check.row("why() is as it fell", x, 0, -570);
    }

    private static void fellWhenLaid() {
        FelledHasLost x = Check.on("998/.0./.0.");
        x.table(0, -1);
        check.due("it can be drawn", x.block(0, 4), 1);
        check.due("it is not safe", x.odds(0, 0), 100);
        check.due("move(0)", x.move(0), 0);
        check.due("why()", x.why(), 3);
        check.row("why()", x, 0, -126);
        check.due("it lies on top", Check.told(x), ".98/.0./90.");
        check.due("blocks", x.count(1), 5);
    }

    private static void felledStaysSo() {
        FelledHasLost x = Check.on("9.9/999");
        check.due("why() of one that stands", x.why(), 0);
        check.row("why() of one that stands", x);
        x.move(0);
        check.due("move()", x.move(20), -2);
        check.due("moves()", x.moves(), 0);
        check.row("moves()", x, -1, -1, 0);
        check.due("odds()", x.odds(20, 0), -2);
        check.due("odds() of another jerk", x.odds(20, 2), -1);
        check.due("best()", x.best(), -2);
        check.due("leave()", x.leave(), -2);
        check.due("where()", x.where(2), -2);
        check.due("where() of none", x.where(0), -1);
        check.row("the row stays", x, -1, -1, 0);
        check.due("play()", Check.play(x, "0r>l"), 0);
        check.row("play()", x, 1, 1);
        check.due("play() of none", Check.play(x, ""), 0);
        check.row("play() of none", x, 0, 1);
        check.due("undo", x.count(9), 1);
        x.swell(0, -9);
        check.due("undo()", x.undo(), 0);
        check.due("the tower", Check.told(x), "9.9/999");
        check.due("not felled", x.count(5), 0);
        check.due("by nobody", x.count(6), -1);
        check.due("why()", x.why(), 0);
        check.row("why()", x);
    }

    /** Felled by its last block it stands yet, and others could be drawn if it were not felled. */
    private static void felledAndStanding() {
        FelledHasLost x = Check.on(".9./999/999");
        check.due("moves() ahead of it", x.moves() > 0, true);
        x.move(10);
        check.due("stands()", x.stands(), 1);
        check.due("moves()", x.moves(), 0);
        check.row("moves()", x, -1, -1, 0);
        check.due("odds()", x.odds(30, 0), -2);
        check.due("best()", x.best(), -2);
        check.due("leave()", x.leave(), -2);
        check.due("where()", x.where(3), -2);
        check.due("move()", x.move(30), -2);
        check.due("play()", Check.play(x, "1l>l"), 0);
        check.due("chance()", x.chance(1), 0);
        check.row("chance()", x, 0, 1, -1);
        check.due("loser()", x.loser(3), 0);
        check.row("loser()", x, 0, 0, 10000);
    }

    private static void playSigns() {
        StringBuilder fourteen = new StringBuilder("0l>l");
        for (int n = 1; n < 14; n++) {
            fourteen.append(";0l>l");
        }
        String[] texts = {"x", "0", "0x", "01l", "012", "0l", "0l>", "0l>x", "0lx", "0l>l;", "0l>l;;", "0l>l0", "0l>lx", ";", "l>l", "0>l", " 0l>l",
            fourteen + ";", fourteen + ";0", fourteen + ";x", fourteen + "x", "0" + fourteen + ";", "0" + fourteen + "x", "00" + fourteen,
            fourteen + ";0l>l", "0l>l;;" + fourteen, fourteen + ";0l>l;"};
        int[] at = {0, 1, 1, 3, 2, 2, 3, 3, 2, 5, 5, 4, 4, 0, 0, 1, 0, 70, 70, 70, 69, 70, 70, 2, 70, 5, 70};
        for (int i = 0; i < texts.length; i++) {
            FelledHasLost x = Check.on("999/999");
            x.stands();
            check.due("play " + texts[i], Check.play(x, texts[i]), -1 - at[i]);
            check.due("nothing is done", Check.told(x), "999/999");
            check.due("nothing to undo", x.count(9), 0);
            check.due("the text", x.count(12), 0);
            check.row("what was told ahead of it", x, -1, 1710);
        }
        String[] good = {"", fourteen.toString(), "0" + fourteen, "99l>m", "00m>r"};
        int[] done = {0, 1, 1, 0, 1};
        int[] stuck = {0, 1, 1, 1, 0};
        for (int i = 0; i < good.length; i++) {
            FelledHasLost x = Check.on("999/999");
            check.due("play " + good[i], Check.play(x, good[i]), done[i]);
            check.row("play " + good[i], x, stuck[i], 0);
            check.due("undo", x.count(9), done[i]);
        }
    }

    private static void played() {
        FelledHasLost x = Check.on("999/888/777");
        check.due("play()", Check.play(x, "0m>r;1l>l;1r>m"), 3);
        check.row("play()", x, 0, 0);
        check.due("the tower", Check.told(x), "9.9/.8./777/889");
        check.due("to move", x.count(4), 1);
        check.due("play() that stops", Check.play(x, "0l>l;0r>l"), 1);
        check.row("play() that stops by a fall", x, 0, 1);
        check.due("felled by", x.count(6), 1);
        check.due("to move", x.count(4), 0);
        check.due("undo()", x.undo(), 1);
        check.due("undo()", x.undo(), 0);
        check.due("the tower", Check.told(x), "999/888/777");
        check.due("to move", x.count(4), 0);
        check.due("play() that can't go on", Check.play(x, "0l>l;2l>l;0r>r"), 1);
        check.row("play() that can't go on", x, 1, 0);
        check.due("the tower", Check.told(x), ".99/888/777/9..");
        check.due("play() that can't begin", Check.play(x, "0l>l"), 0);
        check.row("play() that can't begin", x, 1, 0);
        check.due("nothing more to undo", x.count(9), 1);
    }

    private static void undone() {
        FelledHasLost x = Check.on("999/999/999");
        check.due("undo() of none", x.undo(), -1);
        x.plane(0, 8);
        x.table(0, 1);
        x.move(10);
        x.plane(3, 1);
        x.swell(2, -1);
        x.felt(5, 1);
        x.stands();
        check.due("undo()", x.undo(), 0);
        check.due("what was planed ahead of it stays", Check.told(x), "899/999/999");
        check.due("the table stays", x.count(7), 1);
        check.due("touches stay", x.count(10), 1);
        check.due("the row stays", x.count(11), 2);
        check.due("undo() of none more", x.undo(), -1);
        x.move(10);
        check.due("a wrong tower", Check.tower(x, "x"), -1);
        check.due("again() of none", x.again(0), false);
        check.due("undo stays", x.count(9), 1);
        x.keep(0);
        check.due("again()", x.again(0), true);
        check.due("undo is forgotten", x.count(9), 0);
        check.due("undo()", x.undo(), -1);
    }

    private static void undoneByPlayers() {
        FelledHasLost x = Check.on("999/999/999/999/999");
        Check.players(x, "1234");
        for (int n = 0; n < 4; n++) {
            x.move(x.best());
        }
        check.due("to move", x.count(4), 0);
        Check.players(x, "12");
        check.due("undo()", x.undo(), 3);
        check.due("3 by 2", x.count(4), 1);
        check.due("undo()", x.undo(), 2);
        check.due("2 by 2", x.count(4), 0);
    }

    private static void atMostFifteen() {
        FelledHasLost x = Check.on("999/999/999/999/999/999/999/999/999/999");
        List<String> towers = new ArrayList<>();
        for (int n = 0; n < 17; n++) {
            towers.add(Check.told(x));
            check.due("a safe one", x.move(x.best()), 1);
            check.due("undo", x.count(9), Math.min(15, n + 1));
        }
        for (int n = 14; n >= 0; n--) {
            check.due("undo()", x.undo(), n);
            check.due("the tower", Check.told(x), towers.get(n + 2));
        }
        check.due("undo() of none", x.undo(), -1);
        check.due("moves after it are kept again", x.move(x.best()), 1);
        check.due("undo()", x.undo(), 0);
        check.due("the tower", Check.told(x), towers.get(2));
    }
}
