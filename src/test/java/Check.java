import java.util.Arrays;
import java.util.NoSuchElementException;

/** What the tests share: telling texts to an object, and comparing answers with those that are due. */
final class Check {
    interface Call {
        long answer();
    }

    private int wrong = 0;
    private int asked = 0;

    static void say(FelledHasLost x, String text) {
        x.end(0);
        for (int i = 0; i < text.length(); i += 4) {
            int v = 0;
            for (int k = i; k < i + 4; k++) {
                v = v << 8 | (k < text.length() ? text.charAt(k) : 0);
            }
            x.sign(v);
        }
        x.end(text.length());
    }

    static int tower(FelledHasLost x, String text) {
        say(x, text);
        return x.tower();
    }

    static int rule(FelledHasLost x, String text) {
        say(x, text);
        return x.rule();
    }

    static int players(FelledHasLost x, String text) {
        say(x, text);
        return x.players();
    }

    static int play(FelledHasLost x, String text) {
        say(x, text);
        return x.play();
    }

    static FelledHasLost on(String tower) {
        FelledHasLost x = new FelledHasLost();
        tower(x, tower);
        return x;
    }

    /** THE TOWER as a text again. */
    static String told(FelledHasLost x) {
        StringBuilder s = new StringBuilder();
        for (int b = 0; b < 3 * x.count(0); b++) {
            s.append(b > 0 && b % 3 == 0 ? "/" : "");
            try {
                s.append(x.block(b, 0));
            } catch (NoSuchElementException gap) {
                s.append('.');
            }
        }
        return s.toString();
    }

    void due(String what, long got, long want) {
        asked++;
        if (got != want) {
            wrong++;
            System.out.println(what + " answered " + got + ", due is " + want);
        }
    }

    void due(String what, boolean got, boolean want) {
        due(what, got ? 1 : 0, want ? 1 : 0);
    }

    void due(String what, String got, String want) {
        asked++;
        if (!got.equals(want)) {
            wrong++;
            System.out.println(what + " is " + got + ", due is " + want);
        }
    }

    void row(String what, FelledHasLost x, long... want) {
        long[] got = new long[x.count(11)];
        for (int i = 0; i < got.length; i++) {
            got[i] = x.row(i);
        }
        due("the row of " + what, Arrays.toString(got), Arrays.toString(want));
    }

    void none(String what, Call call) {
        boolean thrown = false;
        try {
            call.answer();
        } catch (NoSuchElementException e) {
            thrown = true;
        }
        due(what + " throws NoSuchElementException", thrown, true);
    }

    void finish() {
        System.out.println(asked + " answers, " + wrong + " wrong");
        if (wrong != 0) {
            System.exit(1);
        }
    }
}
