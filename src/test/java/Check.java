import java.lang.reflect.InvocationTargetException;
import java.lang.reflect.Method;
import java.lang.reflect.Modifier;
import java.util.Arrays;
import java.util.Comparator;
import java.util.NoSuchElementException;

/** What the tests share: telling texts to an object, and comparing answers with those that are due. */
final class Check {
    interface Call {
        long answer();
    }

    private int wrong = 0;
    private int asked = 0;
    private String running = "";

    static void say(FelledHasLost x, String text) {
        x.end(0);
        for (int i = 0; i < text.length(); i += 4) {
            int v = 0;
            for (int k = i; k < i + 4; k++) {
                v = v << 8 | (k < text.length() ? text.charAt(k) : 0);
            }
            x.sign(v);
        }
        x.end(text.length());
    }

    static int tower(FelledHasLost x, String text) {
        say(x, text);
        return x.tower();
    }

    static int rule(FelledHasLost x, String text) {
        say(x, text);
        return x.rule();
    }

    static int players(FelledHasLost x, String text) {
        say(x, text);
        return x.players();
    }

    static int play(FelledHasLost x, String text) {
        say(x, text);
        return x.play();
    }

    static FelledHasLost on(String tower) {
        FelledHasLost x = new FelledHasLost();
        tower(x, tower);
        return x;
    }

    /** THE TOWER as a text again. */
    static String told(FelledHasLost x) {
        StringBuilder s = new StringBuilder();
        for (int b = 0; b < 3 * x.count(0); b++) {
            s.append(b > 0 && b % 3 == 0 ? "/" : "");
            try {
                s.append(x.block(b, 0));
            } catch (NoSuchElementException gap) {
                s.append('.');
            }
        }
        return s.toString();
    }

    static FelledHasLost on(String tower, int along, int across) {
        FelledHasLost x = on(tower);
        x.table(0, along);
        x.table(1, across);
        return x;
    }

    /** That many layers of three equal blocks, as a text. */
    static String layers(int n) {
        return "999/".repeat(n - 1) + "999";
    }

    /** All that can be asked without changing anything, the row first. */
    static String state(FelledHasLost x) {
        StringBuilder s = new StringBuilder("row");
        for (int i = 0; i < x.count(11); i++) {
            s.append(' ').append(x.row(i));
        }
        s.append(", tower ").append(told(x)).append(", counts");
        for (int i = 0; i < 13; i++) {
            s.append(' ').append(x.count(i));
        }
        s.append(", spans");
        for (int b = 0; b < 3 * x.count(0); b++) {
            s.append(' ').append(x.span(b));
        }
        return s.toString();
    }

    /** Each static method of a class but main is a test; its name tells what it is about. */
    void runAll(Class<?> tests) {
        Method[] all = tests.getDeclaredMethods();
        Arrays.sort(all, Comparator.comparing(Method::getName));
        int run = 0;
        for (Method m : all) {
            boolean isTest = Modifier.isStatic(m.getModifiers()) && !Modifier.isPrivate(m.getModifiers()) && m.getParameterCount() == 0;
            if (isTest) {
                run(m);
                run++;
            }
        }
        System.out.print(run + " tests, ");
        finish();
    }

    private void run(Method test) {
        running = test.getName() + ": ";
        try {
            test.invoke(null);
        } catch (InvocationTargetException e) {
            wrong++;
            System.out.println(running + "threw " + e.getCause());
        } catch (IllegalAccessException e) {
            wrong++;
            System.out.println(running + "can't be run: " + e);
        }
    }

    void due(String what, long got, long want) {
        asked++;
        if (got != want) {
            wrong++;
            System.out.println(running + what + " answered " + got + ", due is " + want);
        }
    }

    void due(String what, boolean got, boolean want) {
        due(what, got ? 1 : 0, want ? 1 : 0);
    }

    void due(String what, String got, String want) {
        asked++;
        if (!got.equals(want)) {
            wrong++;
            System.out.println(running + what + " is " + got + ", due is " + want);
        }
    }

    void row(String what, FelledHasLost x, long... want) {
        long[] got = new long[x.count(11)];
        for (int i = 0; i < got.length; i++) {
            got[i] = x.row(i);
        }
        due("the row of " + what, Arrays.toString(got), Arrays.toString(want));
    }

    void none(String what, Call call) {
        boolean thrown = false;
        try {
            call.answer();
        } catch (NoSuchElementException e) {
            thrown = true;
        }
        due(what + " throws NoSuchElementException", thrown, true);
    }

    void finish() {
        System.out.println(asked + " answers, " + wrong + " wrong");
        if (wrong != 0) {
            System.exit(1);
        }
    }
}
