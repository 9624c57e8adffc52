import java.util.NoSuchElementException;
import java.util.Random;

/** Random runs of calls, each answered by the program and by the Oracle; fixed seeds, so that every run is the same. */
public final class OracleTest {
    private static final long THROWN = Long.MIN_VALUE;
    private static int wrong = 0;
    private static int calls = 0;

    public static void main(String[] args) {
        int runs = args.length > 0 ? Integer.parseInt(args[0]) : 250;
        int first = args.length > 1 ? Integer.parseInt(args[1]) : 0;
        for (int seed = first; seed < first + runs && wrong < 10; seed++) {
            new Run(seed).go();
        }
        System.out.println(calls + " calls compared, " + wrong + " wrong");
        if (wrong != 0) {
            System.exit(1);
        }
    }

    private static final class Run {
        final int seed;
        final Random random;
        final FelledHasLost x = new FelledHasLost();
        final Oracle o = new Oracle();
        final StringBuilder story = new StringBuilder();
        int left = 512;

        Run(int seed) {
            this.seed = seed;
            this.random = new Random(seed);
        }

        void go() {
            say(randomTower());
            call(2, 0, 0, 0, 0);
            while (left > 60 && wrong < 10) {
                step();
            }
        }

        int pick(int n) {
            return random.nextInt(n);
        }

        String one(String... of) {
            return of[pick(of.length)];
        }

        void say(String text) {
            call(1, 0, 0, 0, 0);
            for (int i = 0; i < text.length(); i += 4) {
                int v = 0;
                for (int k = 0; k < 4; k++) {
                    v = v << 8 | (i + k < text.length() ? text.charAt(i + k) & 255 : pick(256));
                }
                call(0, v, 0, 0, 0);
            }
            call(1, Math.min(80, text.length()), 0, 0, 0);
        }

        String randomTower() {
            int kind = pick(10);
            int layers = kind == 0 ? 16 : kind == 1 ? 1 + pick(15) : kind == 2 ? pick(3) : 2 + pick(4);
            boolean level = pick(3) == 0;
            boolean sides = pick(2) == 0;
            StringBuilder s = new StringBuilder();
            for (int l = 0; l < layers; l++) {
                if (l > 0) {
                    s.append('/');
                }
                int keep = pick(3);
                for (int p = 0; p < 3; p++) {
                    boolean gap = p != keep && pick(sides ? 8 : 4) == 0;
                    s.append(gap ? '.' : level || sides && p != 1 ? '7' : (char) ('0' + pick(10)));
                }
            }
            return spoil(s.toString(), "./0123456789x", 12);
        }

        /** Now and then a sign is wrong, more, or missing. */
        String spoil(String s, String signs, int oneIn) {
            if (pick(oneIn) != 0) {
                return s;
            }
            int at = pick(s.length() + 1);
            char c = pick(8) == 0 ? (char) pick(256) : signs.charAt(pick(signs.length()));
            int how = pick(3);
            if (how == 0 || at == s.length()) {
                return s.substring(0, at) + c + s.substring(at);
            }
            return s.substring(0, at) + (how == 1 ? String.valueOf(c) : "") + s.substring(at + 1);
        }

        String randomRule(int depth) {
            StringBuilder s = new StringBuilder();
            int things = 1 + pick(4);
            for (int i = 0; i < things; i++) {
                if (i > 0) {
                    s.append(one("+", "-", "*", "/", "+", "*", "<", ">", "="));
                }
                while (pick(4) == 0) {
                    s.append('-');
                }
                int kind = pick(6);
                if (kind == 0 && depth < 5) {
                    s.append('(').append(randomRule(depth + 1)).append(')');
                } else if (kind < 3) {
                    s.append(pick(kind == 1 ? 10 : 1200));
                } else {
                    s.append("tklpqgnmhj".charAt(pick(10)));
                }
            }
            return s.toString();
        }

        /** A move that can be, if there is one: most that are told at random can not. */
        int likelyMove() {
            for (int n = 0; n < 40; n++) {
                int m = 10 * pick(3 * o.count(0) + 1) + pick(3);
                if (o.canBeNow(m, pick(3) > 0)) {
                    return m;
                }
            }
            return 0;
        }

        String randomPlay() {
            StringBuilder s = new StringBuilder();
            int n = pick(12) == 0 ? 10 + pick(8) : pick(4);
            for (int i = 0; i < n; i++) {
                int m = likelyMove();
                if (i > 0) {
                    s.append(';');
                }
                s.append(m / 30).append("lmr".charAt(m / 10 % 3)).append('>').append("lmr".charAt(m % 10));
            }
            return spoil(s.toString(), "0123456789lmr>;x", 6);
        }

        int odd(int below) {
            int kind = pick(14);
            return kind == 0 ? random.nextInt() : kind == 1 ? -1 - pick(3) : kind == 2 ? below + pick(3) : pick(Math.max(1, below));
        }

        void step() {
            int layers = o.count(0);
            int kind = o.count(5) == 1 && pick(3) == 0 ? 40 : pick(100);
            if (kind < 4) {
                say(randomTower());
                call(2, 0, 0, 0, 0);
            } else if (kind < 10) {
                String rule = spoil(randomRule(0), "tklpqgnmhj0123456789()<>=+-*/ ", 4);
                say(rule.length() > 80 ? rule.substring(0, 80) : rule);
                call(3, 0, 0, 0, 0);
            } else if (kind < 13) {
                say(one("0", "12", "345", "6789", "11111", "", "1x", "x", "123x", "3 4", "29"));
                call(4, 0, 0, 0, 0);
            } else if (kind < 20) {
                String play = randomPlay();
                say(play.length() > 80 ? play.substring(0, 80) : play);
                call(23, 0, 0, 0, 0);
            } else if (kind < 40) {
                call(22, pick(10) == 0 ? odd(480) : likelyMove(), 0, 0, 0);
            } else if (kind < 45) {
                call(24, 0, 0, 0, 0);
            } else {
                other(5 + pick(40), layers);
            }
        }

        void other(int which, int layers) {
            switch (which) {
                case 5: case 6: case 33: case 34:
                    call(which, odd(which == 6 ? layers : 3 * layers), odd(which == 33 ? 2 : 5 + pick(3)), 0, 0);
                    return;
                case 7: call(7, odd(3 * layers), odd(10), 0, 0); return;
                case 8: call(8, odd(4), odd(30), pick(3) == 0 ? random.nextInt() : pick(600) - 300, pick(3) == 0 ? random.nextInt() : pick(11) - 5, 0); return;
                case 9: call(9, odd(2), pick(3) == 0 ? pick(21) - 10 : pick(3) - 1, 0, 0); return;
                case 10: call(10, odd(layers), pick(21) - 10, 0, 0); return;
                case 11: if (pick(8) == 0) call(11, random.nextInt(), 0, 0, 0); return;
                case 18: call(18, likelyMove(), odd(2), 0, 0); return;
                case 36: case 39: call(which, odd(layers), 0, 0, 0); return;
                case 44: call(44, odd(13), 0, 0, 0); return;
                case 15: case 40: case 41: call(which, odd(3), 0, 0, 0); return;
                case 31: call(31, odd(3), 0, 0, 0); return;
                case 32: call(32, odd(21), 0, 0, 0); return;
                case 42: call(0, random.nextInt(), 0, 0, 0); return;
                case 43: call(1, odd(80), 0, 0, 0); return;
                default: call(which, odd(3 * layers), 0, 0, 0);
            }
        }

        void call(int which, int a, int b, int c, int d) {
            call(which, a, b, c, d, pick(10));
        }

        void call(int which, int a, int b, int c, int d, int e) {
            left--;
            calls++;
            int high = which == 34 ? e : 0;
            story.append(which).append('(').append(a).append(' ').append(b).append(' ').append(c).append(' ').append(d).append(") ");
            long want = asked(true, which, a, b, c, d, high);
            long got = asked(false, which, a, b, c, d, high);
            compare("answer", got, want);
            for (int i = 0; i < 13; i++) {
                compare("count(" + i + ")", x.count(i), o.count(i));
            }
            for (int i = 0; i < o.count(11); i++) {
                compare("row(" + i + ")", asked(false, 45, i, 0, 0, 0, 0), asked(true, 45, i, 0, 0, 0, 0));
            }
            for (int i = 0; i < 48; i++) {
                compare("block(" + i + ")", asked(false, 5, i, 0, 0, 0, 0), asked(true, 5, i, 0, 0, 0, 0));
            }
        }

        void compare(String what, long got, long want) {
            if (got != want && wrong < 10) {
                wrong++;
                String tail = story.length() > 400 ? story.substring(story.length() - 400) : story.toString();
                System.out.println("seed " + seed + ": .." + tail + what + " is " + got + ", the oracle says " + want);
            }
        }

        long asked(boolean oracle, int which, int a, int b, int c, int d, int e) {
            try {
                return oracle ? askOracle(which, a, b, c, d, e) : askProgram(which, a, b, c, d, e);
            } catch (NoSuchElementException thrown) {
                return THROWN;
            }
        }

        long askProgram(int which, int a, int b, int c, int d, int e) {
            switch (which) {
                case 0: return x.sign(a);
                case 1: return x.end(a) ? 1 : 0;
                case 2: return x.tower();
                case 3: return x.rule();
                case 4: return x.players();
                case 5: return x.block(a, b);
                case 6: return x.layer(a, b);
                case 7: return x.plane(a, b);
                case 8: return x.sheet(a, b, c, d);
                case 9: return x.table(a, b) ? 1 : 0;
                case 10: return x.swell(a, b);
                case 11: return x.bump(a);
                case 12: return x.stands();
                case 13: return x.loose();
                case 14: return x.weakest();
                case 15: return x.lean(a);
                case 16: return x.moves();
                case 17: return x.free(a);
                case 18: return x.odds(a, b);
                case 19: return x.best();
                case 20: return x.leave();
                case 21: return x.where(a);
                case 22: return x.move(a);
                case 23: return x.play();
                case 24: return x.undo();
                case 25: return x.why();
                case 26: return x.wins();
                case 27: return x.longest();
                case 28: return x.shortest();
                case 29: return x.high();
                case 30: return x.towers();
                case 31: return x.chance(a);
                case 32: return x.loser(a);
                case 33: return x.felt(a, b);
                case 34: return x.known(a, b, e) ? 1 : 0;
                case 35: return x.forget();
                case 36: return x.fits(a);
                case 37: return x.span(a);
                case 38: return x.sure(a);
                case 39: return x.touch(a);
                case 40: return x.keep(a) ? 1 : 0;
                case 41: return x.again(a) ? 1 : 0;
                case 44: return x.count(a);
                default: return x.row(a);
            }
        }

        long askOracle(int which, int a, int b, int c, int d, int e) {
            switch (which) {
                case 0: return o.sign(a);
                case 1: return o.end(a) ? 1 : 0;
                case 2: return o.tower();
                case 3: return o.rule();
                case 4: return o.players();
                case 5: return o.block(a, b);
                case 6: return o.layer(a, b);
                case 7: return o.plane(a, b);
                case 8: return o.sheet(a, b, c, d);
                case 9: return o.table(a, b) ? 1 : 0;
                case 10: return o.swell(a, b);
                case 11: return o.bump(a);
                case 12: return o.stands();
                case 13: return o.loose();
                case 14: return o.weakest();
                case 15: return o.lean(a);
                case 16: return o.moves();
                case 17: return o.free(a);
                case 18: return o.odds(a, b);
                case 19: return o.best();
                case 20: return o.leave();
                case 21: return o.where(a);
                case 22: return o.move(a);
                case 23: return o.play();
                case 24: return o.undo();
                case 25: return o.why();
                case 26: return o.wins();
                case 27: return o.longest();
                case 28: return o.shortest();
                case 29: return o.high();
                case 30: return o.towers();
                case 31: return o.chance(a);
                case 32: return o.loser(a);
                case 33: return o.felt(a, b);
                case 34: return o.known(a, b, e) ? 1 : 0;
                case 35: return o.forget();
                case 36: return o.fits(a);
                case 37: return o.span(a);
                case 38: return o.sure(a);
                case 39: return o.touch(a);
                case 40: return o.keep(a) ? 1 : 0;
                case 41: return o.again(a) ? 1 : 0;
                case 44: return o.count(a);
                default: return o.row(a);
            }
        }
    }
}
