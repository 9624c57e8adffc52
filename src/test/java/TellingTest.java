/** Promises 1 to 6: a new object, the text, and what is told by it. */
public final class TellingTest {
    private static final Check check = new Check();

    public static void main(String[] args) {
        newObject();
        text();
        towerTold();
        towerRefused();
        ruleSigns();
        ruleValues();
        ruleFacts();
        playersTold();
        check.finish();
    }

    private static void newObject() {
        FelledHasLost x = new FelledHasLost();
        long[] due = {0, 0, 0, 2, 0, 0, -1, 0, 0, 0, 0, 0, 0, -100};
        for (int i = 0; i < due.length; i++) {
            check.due("count(" + i + ") of a new object", x.count(i), due[i]);
        }
        check.due("count(-1)", x.count(-1), -100);
        check.none("row(0) of a new object", () -> x.row(0));
        Check.tower(x, "999/999");
        check.due("a hand at first", x.odds(0, 0), 1);
        x.move(0);
        check.due("the other hand at first", x.odds(21, 0), 1);
    }

    private static void text() {
        FelledHasLost x = new FelledHasLost();
        check.due("sign: highest byte first", x.sign('9' << 24 | '8' << 16 | '7' << 8 | '/'), 4);
        check.due("end(5) of 4", x.end(5), false);
        check.due("end(-1)", x.end(-1), false);
        check.due("signs left", x.count(12), 4);
        check.due("end(4) of 4", x.end(4), true);
        check.due("end(3)", x.end(3), true);
        check.due("tower()", x.tower(), 1);
        check.due("the tower", Check.told(x), "987");
        check.due("a call that reads the text empties it", x.count(12), 0);
        for (int n = 1; n <= 20; n++) {
            check.due("sign " + n, x.sign(-1), 4 * n);
        }
        check.due("sign behind 80", x.sign(0), -1);
        check.due("the text as it was", x.count(12), 80);
        x.end(77);
        check.due("sign behind 77", x.sign(0), -1);
        x.end(76);
        check.due("sign behind 76", x.sign(0), 80);
        check.due("sign 255 can't stand", x.tower(), -1);
        check.due("a refused one empties it, too", x.count(12), 0);
        check.due("end(0) of none", x.end(0), true);
        check.due("end(1) of none", x.end(1), false);
    }

    private static void towerTold() {
        String sixteen = "999/999/999/999/999/999/999/999/999/999/999/999/999/999/999/9..";
        String[] towers = {"", "999", "0.0", "..1/.2./3..", "9../999/999", sixteen};
        for (String tower : towers) {
            FelledHasLost x = Check.on("123/456");
            check.due("layers of " + tower, Check.tower(x, tower), (tower.length() + 1) / 4);
            check.due("the tower", Check.told(x), tower);
        }
        FelledHasLost x = Check.on("999/999");
        x.table(0, 2);
        x.move(0);
        x.felt(3, 1);
        x.known(4, 3, 4);
        check.due("to move", x.count(4), 1);
        check.due("tower told anew", Check.tower(x, "999/999"), 2);
        check.due("to move then", x.count(4), 0);
        check.due("can be undone then", x.count(9), 0);
        check.due("touches then", x.count(10), 0);
        check.due("nothing is known then", x.fits(1), 1000);
        check.due("the table is as it was", x.count(7), 2);
        x = Check.on("9../999");
        check.due("felled", x.move(0), 0);
        Check.tower(x, "999/999");
        check.due("told anew it is not felled", x.count(5), 0);
        check.due("nor by anybody", x.count(6), -1);
        check.due("and goes on", x.move(0), 1);
    }

    private static void towerRefused() {
        String sixteen = "999/999/999/999/999/999/999/999/999/999/999/999/999/999/999/999";
        String[] wrong = {"9", "99", "9x9", "999/", "999/9", "999x", "9999", "...", "..9/...", "/", "999//", "99/9", " 999",
            sixteen + "/", sixteen + "/9", sixteen + "/x", sixteen + "9", "999/999/9.\u00ff"};
        int[] at = {1, 2, 1, 4, 5, 3, 3, 2, 6, 0, 4, 2, 0, 64, 64, 64, 63, 10};
        for (int i = 0; i < wrong.length; i++) {
            FelledHasLost x = Check.on("999/999/999");
            x.move(0);
            x.felt(3, 1);
            x.known(5, 1, 2);
            x.stands();
            check.due("tower " + wrong[i], Check.tower(x, wrong[i]), -1 - at[i]);
            check.due("the tower stays", Check.told(x), ".99/999/999/9..");
            check.due("who moves stays", x.count(4), 1);
            check.due("undo stays", x.count(9), 1);
            check.due("touches stay", x.count(10), 1);
            check.due("what is known stays", x.span(5), 6);
            check.due("the row stays", x.count(11), 2);
        }
    }

    private static void ruleSigns() {
        String many = "t+t+t+t+t+t+t+t+t+t+t+t+t+t+t+t+t+t+t+t";
        String[] rules = {"", "t", "123", "((((t))))", "t<k", "(t<k)<l", "t<(k<l)", "--t", "t--k", "t*-k", "(-(-t))", "-" + many,
            "x", "t+", "+t", "1234", "t1", "1t", "(t", ")", "t)", "()", "(((((t", "t<k<l", "t=k+l=m", "(t<k<l)", "t**k", "-", "t-", " t",
            "T", "t k", "(t)(k)", "(t)1", "1(t)", "t<", "<t", many + "+", many + "+t", many + "+t)", "t+x" + many, many + "+x",
            "-" + many + "x", "(" + many, "--" + many + "--" + many};
        int[] due = {0, 0, 0, 0, 0, 0, 0, 0, 0, 0, 0, 0,
            -1, -3, -1, -4, -2, -2, -3, -1, -2, -2, -5, -4, -6, -5, -3, -2, -3, -1,
            -1, -2, -4, -4, -2, -3, -1, -41, -41, -41, -3, -41,
            -41, -41, -41};
        for (int i = 0; i < rules.length; i++) {
            FelledHasLost x = Check.on("999/999");
            Check.rule(x, "42");
            check.due("rule " + rules[i], Check.rule(x, rules[i]), due[i]);
            check.due("the text behind rule " + rules[i], x.count(12), 0);
            if (due[i] < 0) {
                check.due("the old rule stays", x.odds(0, 0), 42);
            }
        }
        FelledHasLost x = Check.on("999/999");
        Check.rule(x, "42");
        Check.rule(x, "");
        check.due("no rule: h*t", x.odds(0, 0), 1);
    }

    private static void ruleValues() {
        String[] rules = {"2+3*4", "(2+3)*4", "20-3-4", "100/7/2", "7/0+3", "-7/2+9", "7/-2+9", "--5", "---5+9", "3<4", "4<3", "3<3",
            "4>3", "3>3", "3=3", "3=4", "2+2=4", "1<2+5", "200", "-3", "2*-3+10", "1-1<1", "5-(1<2)", "(1<2)+(2<3)", "100-10*9/4", "007",
            "100", "101", "2-(3-(4-(5-(6))))", "9-2*3-1", "8/3*3", "8*3/5", "-2*-3", "50-(-2-3)", "(((1)))-2<0"};
        int[] due = {14, 20, 13, 7, 3, 6, 6, 5, 4, 1, 0, 0,
            1, 0, 1, 0, 1, 1, 100, 0, 4, 1, 4, 2, 78, 7,
            100, 100, 4, 2, 6, 4, 6, 55, 1};
        for (int i = 0; i < rules.length; i++) {
            FelledHasLost x = Check.on("999/999");
            check.due("rule " + rules[i], Check.rule(x, rules[i]), 0);
            check.due("odds by " + rules[i], x.odds(0, 0), due[i]);
        }
        FelledHasLost x = Check.on("999/999");
        int wrapped = 999 * 999 * 999 * 999;
        check.due("rule", Check.rule(x, "999*999*999*999/(999*999*99)"), 0);
        check.due("as ints", x.odds(0, 0), Math.max(0, Math.min(100, wrapped / (999 * 999 * 99))));
        check.due("rule", Check.rule(x, "(999*999*999*999<0)*7"), 0);
        check.due("below 0 as ints", x.odds(0, 0), wrapped < 0 ? 7 : 0);
    }

    private static void ruleFacts() {
        String[] towers = {"999/999", "898/999", "898/999", "999/999", "999/999/999", "999/999/999", "999/999", "99./999/999", "999/999",
            "999/999", "999/999", "357/999"};
        String[] rules = {"t", "t", "t", "k", "l*10", "p*10", "q*10", "g*10", "n*10", "m", "h*10", "k"};
        int[] moves = {0, 0, 10, 0, 40, 40, 2, 0, 0, 0, 0, 10};
        int[] due = {1, 0, 1, 9, 10, 10, 20, 10, 20, 17, 10, 5};
        for (int i = 0; i < rules.length; i++) {
            FelledHasLost x = Check.on(towers[i]);
            Check.rule(x, rules[i]);
            check.due(rules[i] + " of " + moves[i] + " at " + towers[i], x.odds(moves[i], 0), due[i]);
        }
        FelledHasLost x = Check.on("999/999/999");
        Check.rule(x, "9-j*4");
        check.due("pulled", x.odds(0, 0), 9);
        check.due("jerked", x.odds(0, 1), 5);
        Check.players(x, "37");
        Check.rule(x, "h");
        check.due("the first hand", x.odds(0, 0), 3);
        x.move(0);
        check.due("the second hand", x.odds(21, 0), 7);
        x = Check.on("099/.0./9..");
        Check.rule(x, "m+5");
        check.due("m of -90, cut to 0", x.odds(11, 0), 5);
        x.table(0, -1);
        check.due("m of -186, cut to 0", x.odds(11, 0), 4);
    }

    private static void playersTold() {
        String[] texts = {"1", "37", "000", "9876", "", "x", "1x", "12x", "123x", "1234x", "12345", "12 4"};
        int[] due = {1, 2, 3, 4, -1, -1, -2, -3, -4, -5, -5, -3};
        for (int i = 0; i < texts.length; i++) {
            FelledHasLost x = Check.on("999/999/999");
            Check.players(x, "246");
            x.move(0);
            Check.rule(x, "h");
            check.due("players " + texts[i], Check.players(x, texts[i]), due[i]);
            check.due("PLAYERS", x.count(3), due[i] < 0 ? 3 : due[i]);
            check.due("to move", x.count(4), due[i] < 0 ? 1 : 0);
            check.due("the text", x.count(12), 0);
            check.due("the hand", x.odds(21, 0), due[i] < 0 ? 4 : texts[i].charAt(0) - '0');
        }
        FelledHasLost x = Check.on("999/999/999/999/999");
        Check.players(x, "135");
        for (int turn = 0; turn < 7; turn++) {
            check.due("by turns", x.count(4), turn % 3);
            check.due("a safe one", x.move(x.best()), 1);
        }
    }
}
