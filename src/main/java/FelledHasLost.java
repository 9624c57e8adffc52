import java.util.Arrays;
import java.util.NoSuchElementException;

/**
 * A tower of crosswise layers, three places to a layer, from which blocks are drawn and laid on top.
 * The document ../shared/DOC.md says what every call answers; words in capitals there are names here.
 */
public final class FelledHasLost {
    public static final int NONE = -1;

    private static final int CANNOT = -2;
    private static final int TOO_MANY = -3;
    private static final int MISSING = -3;
    private static final int NO_LEAN = -100000;
    private static final int NO_COUNT = -100;
    private static final int GAP = -1;
    private static final int PLACES = 3;
    private static final int MOST_LAYERS = 16;
    private static final int MOST_BLOCKS = MOST_LAYERS * PLACES;
    private static final int THICKEST = 9;
    private static final int BARE_WEIGHT = 10;
    private static final int MOST_TILT = 9;
    private static final int MOST_PLAYERS = 4;
    private static final int MOST_KEPT = 3;
    private static final int CERTAIN = 100;
    private static final int MOST_TURNS = 20;
    private static final int WHOLE = 10000;

    /** Why a tower is felled; 0 is kept for one that is not. */
    private static final int NOT_FELLED = 0;
    private static final int LAST_DRAWN = 1;
    private static final int FELL_DRAWN = 2;
    private static final int FELL_LAID = 3;

    private final Text text = new Text();
    private final Row numbers = new Row();
    private final State now = new State();
    private final History history = new History();
    private final State[] kept = new State[MOST_KEPT];
    private final boolean[] isKept = new boolean[MOST_KEPT];
    private final Balance balance = new Balance();
    private final Rule ruling = new Rule();
    private final Chooser chooser = new Chooser(balance, ruling);
    private final Games games = new Games(chooser);
    private final Touches touches = new Touches();
    private final MoveList told = new MoveList();
    private final Tower bare = new Tower();
    private final Tower trial = new Tower();
    private final int[] hands = new int[MOST_PLAYERS];
    private final int[] shares = new int[MOST_PLAYERS];
    private int playing = 2;

    public FelledHasLost() {
        for (int i = 0; i < MOST_KEPT; i++) {
            kept[i] = new State();
        }
        Arrays.fill(hands, 1);
    }

    // ---- the tower

    public int sign(int v) {
        return text.addFour(v) ? text.length : NONE;
    }

    public boolean end(int n) {
        return text.cut(n);
    }

    public int tower() {
        int bad = Tower.wrongSign(text);
        if (bad == NONE) {
            now.tower.readFrom(text);
            now.begin();
            touches.clear();
            history.clear();
        }
        text.clear();
        return bad == NONE ? now.tower.layers : -1 - bad;
    }

    public int rule() {
        int bad = ruling.readFrom(text);
        text.clear();
        return bad == NONE ? 0 : -1 - bad;
    }

    public int players() {
        int bad = wrongHand();
        if (bad == NONE) {
            playing = text.length;
            for (int i = 0; i < playing && i < MOST_PLAYERS; i++) {
                hands[i] = text.signs[i] - '0';
            }
            now.mover = 0;
        }
        text.clear();
        return bad == NONE ? playing : -1 - bad;
    }

    private int wrongHand() {
        for (int i = 0; i < text.length && i < MOST_PLAYERS; i++) {
            if (!text.isDigit(i)) {
                return i;
            }
        }
        if (text.length == 0) {
            return 0;
        }
        return text.length > MOST_PLAYERS ? MOST_PLAYERS : NONE;
    }

    public int block(int b, int what) throws NoSuchElementException {
        Tower t = now.tower;
        if (!t.has(b)) {
            throw new NoSuchElementException("no such block");
        }
        switch (what) {
            case 0:
                return t.thickness[b];
            case 1:
                return t.thickness[b] + BARE_WEIGHT;
            case 2:
                return t.isTight(b) ? 1 : 0;
            case 3:
                return t.blocksAbove(b / PLACES);
            case 4:
                return canBeDrawn(b) ? 1 : 0;
            default:
                throw new NoSuchElementException("no such number of a block");
        }
    }

    private boolean canBeDrawn(int b) {
        Tower t = now.tower;
        if (t.blocksIn(b / PLACES) < 2) {
            return false;
        }
        int thickness = t.take(b);
        boolean holds = balance.weigh(t);
        t.put(b, thickness);
        return holds;
    }

    public int layer(int l, int what) throws NoSuchElementException {
        Tower t = now.tower;
        if (!t.hasLayer(l)) {
            throw new NoSuchElementException("no such layer");
        }
        balance.weigh(t);
        switch (what) {
            case 0:
                return t.blocksIn(l);
            case 1:
                return balance.above[l];
            case 2:
                return balance.pull[l];
            case 3:
                return balance.margin[l];
            case 4:
                return Balance.leastPlace(t.bearing[l]);
            case 5:
                return Balance.greatestPlace(t.bearing[l]);
            case 6:
                return t.bearing[l];
            default:
                throw new NoSuchElementException("no such number of a layer");
        }
    }

    public int plane(int b, int v) {
        if (!now.tower.has(b) || v < 0 || v > THICKEST) {
            return NONE;
        }
        int was = now.tower.thickness[b];
        now.tower.put(b, v);
        return was;
    }

    public int sheet(int kind, int n, int f, int step) {
        if (kind < 0 || kind > 3 || n > MOST_BLOCKS) {
            return NONE;
        }
        if (kind == 3) {
            copySheet(kind, 0, f, step);
            return MISSING;
        }
        return n < 0 ? CANNOT : copySheet(kind, n, f, step);
    }

    /** The sheet has an entry for each block that is there, and none for a gap. */
    private int copySheet(int kind, int n, int f, int step) {
        Tower t = now.tower;
        int sum = 0;
        int i = 0;
        for (int b = 0; b < MOST_BLOCKS; b++) {
            if (t.has(b)) {
                int thickness = i < n ? Tower.fitThickness(entry(kind, f + i * step)) : 0;
                t.put(b, thickness);
                sum += thickness;
                i++;
            }
        }
        return sum;
    }

    private static int entry(int kind, int whole) {
        if (kind == 0) {
            return (byte) whole;
        }
        return kind == 1 ? (short) whole : whole;
    }

    public boolean table(int which, int v) {
        if (which < 0 || which > 1 || v < -MOST_TILT || v > MOST_TILT) {
            return false;
        }
        balance.tilt[which] = v;
        return true;
    }

    public int swell(int layer, int by) {
        Tower t = now.tower;
        if (!t.hasLayer(layer) || by < -THICKEST || by > THICKEST) {
            return NONE;
        }
        int changed = 0;
        for (int b = PLACES * layer; b < PLACES * layer + PLACES; b++) {
            if (t.has(b)) {
                int thickness = Tower.fitThickness(t.thickness[b] + by);
                changed += thickness == t.thickness[b] ? 0 : 1;
                t.put(b, thickness);
            }
        }
        return changed;
    }

    public int bump(int seed) {
        int r = seed;
        for (int which = 0; which < 2; which++) {
            r = r * 1103515245 + 12345;
            balance.tilt[which] = (r >>> 16) % (2 * MOST_TILT + 1) - MOST_TILT;
        }
        return balance.weigh(now.tower) ? 1 : 0;
    }

    // ---- what bears, what stands

    public int stands() {
        balance.weigh(now.tower);
        numbers.clear();
        numbers.add(balance.broken);
        numbers.add(balance.least);
        return balance.broken == NONE ? 1 : 0;
    }

    public int loose() {
        Tower t = now.tower;
        int sum = 0;
        numbers.clear();
        for (int l = 0; l < t.layers; l++) {
            int bits = t.looseIn(l);
            sum += Integer.bitCount(bits);
            numbers.add(bits);
        }
        return sum;
    }

    public int weakest() {
        if (now.tower.layers < 2) {
            return CANNOT;
        }
        balance.weigh(now.tower);
        numbers.clear();
        numbers.add(balance.least);
        return balance.weakestLayer;
    }

    public int lean(int which) {
        if (which < 0 || which > 1) {
            return NO_LEAN;
        }
        Tower t = now.tower;
        int sum = 0;
        int all = 0;
        for (int l = 0; l < t.layers; l++) {
            sum += l % 2 == which ? t.moment[l] : 0;
            all += t.weight[l];
        }
        numbers.clear();
        numbers.add(all);
        return sum;
    }

    // ---- moves

    /** A felled tower has no moves: a bare one stands for it wherever moves are looked for. */
    private Tower movable() {
        return now.isFelled() ? bare : now.tower;
    }

    /** Who has that turn, counted on from player 0. */
    private int inTurn(int turn) {
        return playing > 0 && turn > 0 ? turn % playing : 0;
    }

    private int handOf(int turn) {
        int who = inTurn(turn);
        return who >= 0 && who < MOST_PLAYERS ? hands[who] : 0;
    }

    public int moves() {
        chooser.survey(movable());
        numbers.clear();
        numbers.add(chooser.first);
        numbers.add(chooser.last);
        numbers.add(chooser.can);
        return chooser.safe;
    }

    public int odds(int move, int jerk) {
        if (jerk < 0 || jerk > 1) {
            return NONE;
        }
        Tower t = movable();
        if (!t.canGo(move)) {
            return CANNOT;
        }
        boolean safe = chooser.isSafe(t, move);
        numbers.clear();
        numbers.add(safe ? 1 : 0);
        if (!safe) {
            return CERTAIN;
        }
        chooser.noteFacts(t, move, handOf(now.mover));
        return chooser.oddsNow(jerk);
    }

    public int best() {
        chooser.findBest(movable(), handOf(now.mover));
        if (chooser.chosen == NONE) {
            return CANNOT;
        }
        numbers.clear();
        numbers.add(chooser.chosenOdds);
        numbers.add(chooser.chosenJerk);
        return chooser.chosen;
    }

    public int leave() {
        chooser.findMeanest(movable(), handOf(now.mover));
        if (chooser.chosen == NONE) {
            return CANNOT;
        }
        numbers.clear();
        numbers.add(chooser.left);
        numbers.add(chooser.chosenOdds);
        return chooser.chosen;
    }

    public int where(int b) {
        if (!now.tower.has(b)) {
            return NONE;
        }
        chooser.findSteadiest(movable(), b);
        if (chooser.chosen == NONE) {
            return CANNOT;
        }
        numbers.clear();
        numbers.add(chooser.left);
        return chooser.chosen;
    }

    public int move(int m) {
        if (!movable().canGo(m)) {
            return CANNOT;
        }
        history.push(now);
        carryOut(m);
        return now.isFelled() ? 0 : 1;
    }

    private void carryOut(int m) {
        Tower t = now.tower;
        int b = m / 10;
        if (t.blocksIn(b / PLACES) < 2) {
            now.fell(LAST_DRAWN, b / PLACES, 0);
        } else {
            int spot = t.landing(m);
            int thickness = t.take(b);
            if (!balance.weigh(t)) {
                now.fell(FELL_DRAWN, balance.broken, balance.brokenMargin);
            } else {
                t.put(spot, thickness);
                if (!balance.weigh(t)) {
                    now.fell(FELL_LAID, balance.broken, balance.brokenMargin);
                }
            }
        }
        now.mover = inTurn(now.mover + 1);
    }

    public int play() {
        int bad = told.readFrom(text);
        text.clear();
        if (bad != NONE) {
            return -1 - bad;
        }
        int done = 0;
        boolean stuck = now.isFelled() && told.size > 0;
        for (int i = 0; i < told.size && !stuck && !now.isFelled(); i++) {
            int m = told.moves[i];
            stuck = !now.tower.canGo(m);
            if (!stuck) {
                if (done == 0) {
                    history.push(now);
                }
                carryOut(m);
                done++;
            }
        }
        numbers.clear();
        numbers.add(stuck ? 1 : 0);
        numbers.add(now.isFelled() ? 1 : 0);
        return done;
    }

    public int undo() {
        if (history.size == 0) {
            return NONE;
        }
        history.popInto(now);
        now.mover = inTurn(now.mover);
        return history.size;
    }

    public int why() {
        numbers.clear();
        if (now.isFelled()) {
            numbers.add(now.brokenLayer);
            numbers.add(now.brokenMargin);
        }
        return now.reason;
    }

    // ---- games

    private boolean findAllTowers() {
        games.search(now.tower, now.isFelled());
        return !games.more;
    }

    public int wins() {
        if (!findAllTowers()) {
            return TOO_MANY;
        }
        games.valueWins();
        numbers.clear();
        numbers.add(games.leastMoveTo(0, 0));
        return games.value[0];
    }

    public int longest() {
        if (!findAllTowers()) {
            return TOO_MANY;
        }
        games.valueLengths(true);
        games.tellBestPath(numbers);
        return games.value[0];
    }

    public int shortest() {
        if (!findAllTowers()) {
            return TOO_MANY;
        }
        games.valueLengths(false);
        games.tellBestPath(numbers);
        return games.value[0];
    }

    public int high() {
        if (!findAllTowers()) {
            return TOO_MANY;
        }
        int node = games.firstHighest();
        numbers.clear();
        numbers.add(games.depth[node]);
        numbers.add(games.firstMoveTo(node));
        return games.height[node];
    }

    public int towers() {
        if (!findAllTowers()) {
            return TOO_MANY;
        }
        numbers.clear();
        numbers.add(games.ends());
        return games.found;
    }

    public int free(int b) {
        if (b < 0 || b >= PLACES * now.tower.layers) {
            return NONE;
        }
        games.search(now.tower, now.isFelled());
        int node = games.firstWithGap(b);
        if (node == NONE) {
            return games.more ? TOO_MANY : CANNOT;
        }
        games.tellPathTo(node, numbers);
        return games.depth[node];
    }

    // ---- chances

    public int chance(int n) {
        if (n < 0 || n > 2) {
            return NONE;
        }
        int upper = 1;
        int lower = 1;
        int first = NONE;
        if (n > 0) {
            chooser.findLikeliest(movable(), handOf(now.mover), handOf(now.mover + 1), n);
            upper = chooser.left;
            lower = n == 1 ? CERTAIN : CERTAIN * CERTAIN;
            first = chooser.chosen;
        }
        int by = commonDivisor(upper, lower);
        numbers.clear();
        numbers.add(upper / by);
        numbers.add(lower / by);
        numbers.add(first);
        return 0;
    }

    /** Never below 1, so that it can be divided by. */
    private static int commonDivisor(int a, int b) {
        int x = a;
        int y = b;
        for (int n = 0; n < 64 && y != 0; n++) {
            int rest = x % y;
            x = y;
            y = rest;
        }
        return Math.max(1, x);
    }

    public int loser(int n) {
        if (n < 0 || n > MOST_TURNS) {
            return NONE;
        }
        int left = WHOLE;
        Arrays.fill(shares, 0);
        trial.copyFrom(movable());
        for (int i = 0; i < n; i++) {
            int who = inTurn(now.mover + i);
            chooser.findBest(trial, handOf(who));
            if (chooser.chosen == NONE) {
                break;
            }
            int lost = left * chooser.chosenOdds / CERTAIN;
            if (who >= 0 && who < MOST_PLAYERS) {
                shares[who] += lost;
            }
            left -= lost;
            trial.carry(chooser.chosen / 10, trial.landing(chooser.chosen));
        }
        return tellShares(left);
    }

    private int tellShares(int left) {
        int worst = 0;
        numbers.clear();
        for (int who = 0; who < playing && who < MOST_PLAYERS; who++) {
            numbers.add(shares[who]);
            if (shares[who] > shares[worst]) {
                worst = who;
            }
        }
        numbers.add(left);
        return worst;
    }

    // ---- what was felt

    public int felt(int b, int tight) {
        if (!now.tower.has(b) || tight < 0 || tight > 1) {
            return NONE;
        }
        return touches.tell(b, tight == 1) ? touches.size : NONE;
    }

    public boolean known(int b, int low, int high) {
        if (!now.tower.has(b) || low < 0 || high > THICKEST || low > high) {
            return false;
        }
        touches.low[b] = low;
        touches.high[b] = high;
        return true;
    }

    public int forget() {
        int had = touches.size;
        touches.clear();
        return had;
    }

    public int fits(int layer) {
        if (!now.tower.hasLayer(layer)) {
            return NONE;
        }
        touches.sift(now.tower, layer);
        numbers.clear();
        if (touches.rows > 0) {
            tellThicknesses(touches.leastRow);
            tellThicknesses(touches.greatestRow);
        }
        return touches.rows;
    }

    private void tellThicknesses(int[] threeOfThem) {
        for (int p = 0; p < PLACES && p < threeOfThem.length; p++) {
            if (threeOfThem[p] != GAP) {
                numbers.add(threeOfThem[p]);
            }
        }
    }

    public int span(int b) {
        if (!now.tower.has(b)) {
            return NONE;
        }
        touches.sift(now.tower, b / PLACES);
        return touches.spans[b % PLACES];
    }

    public int sure(int b) {
        if (!now.tower.has(b)) {
            return NONE;
        }
        touches.sift(now.tower, b / PLACES);
        if (touches.rows == 0) {
            return CANNOT;
        }
        int tight = touches.tightRows[b % PLACES];
        numbers.clear();
        numbers.add(tight);
        numbers.add(touches.rows);
        if (tight == 0) {
            return 0;
        }
        return tight == touches.rows ? 1 : 2;
    }

    public int touch(int layer) {
        if (!now.tower.hasLayer(layer)) {
            return NONE;
        }
        touches.sift(now.tower, layer);
        if (touches.rows == 0) {
            return CANNOT;
        }
        int chosen = NONE;
        int fewest = 0;
        for (int p = 0; p < PLACES; p++) {
            int atMost = Math.max(touches.tightRows[p], touches.rows - touches.tightRows[p]);
            if (now.tower.has(PLACES * layer + p) && (chosen == NONE || atMost < fewest)) {
                chosen = PLACES * layer + p;
                fewest = atMost;
            }
        }
        numbers.clear();
        numbers.add(fewest);
        return chosen;
    }

    // ---- kept

    public boolean keep(int i) {
        if (i < 0 || i >= MOST_KEPT) {
            return false;
        }
        kept[i].copyFrom(now);
        isKept[i] = true;
        return true;
    }

    public boolean again(int i) {
        if (i < 0 || i >= MOST_KEPT || !isKept[i]) {
            return false;
        }
        now.copyFrom(kept[i]);
        now.mover = inTurn(now.mover);
        touches.clear();
        history.clear();
        return true;
    }

    public int count(int what) {
        Tower t = now.tower;
        switch (what) {
            case 0:
                return t.layers;
            case 1:
                return t.blocksAbove(-1);
            case 2:
                return PLACES * t.layers - t.blocksAbove(-1);
            case 3:
                return playing;
            case 4:
                return now.mover;
            case 5:
                return now.isFelled() ? 1 : 0;
            case 6:
                return now.feller;
            case 7:
                return balance.tilt[0];
            case 8:
                return balance.tilt[1];
            case 9:
                return history.size;
            case 10:
                return touches.size;
            case 11:
                return numbers.size;
            case 12:
                return text.length;
            default:
                return NO_COUNT;
        }
    }

    public long row(int i) throws NoSuchElementException {
        if (i < 0 || i >= numbers.size) {
            throw new NoSuchElementException("no such number of the row");
        }
        return numbers.values[i];
    }

    /** THE TEXT: what sign() tells and other calls read. */
    private static final class Text {
        private static final int MOST_SIGNS = 80;
        private final int[] signs = new int[MOST_SIGNS];
        private int length;

        boolean addFour(int v) {
            if (length > MOST_SIGNS - 4) {
                return false;
            }
            for (int shift = 24; shift >= 0; shift -= 8) {
                signs[length++] = v >>> shift & 255;
            }
            return true;
        }

        boolean cut(int n) {
            if (n < 0 || n > length) {
                return false;
            }
            length = n;
            return true;
        }

        void clear() {
            length = 0;
        }

        boolean isDigit(int i) {
            return i >= 0 && i < length && signs[i] >= '0' && signs[i] <= '9';
        }

        boolean isOneOf(int i, String wanted) {
            return i >= 0 && i < length && wanted.indexOf((char) signs[i]) >= 0;
        }
    }

    /** The ROW: the longest one tells a number for each layer. */
    private static final class Row {
        private final long[] values = new long[MOST_LAYERS];
        private int size;

        void clear() {
            size = 0;
        }

        void add(long value) {
            if (size < MOST_LAYERS) {
                values[size++] = value;
            }
        }
    }

    /** Blocks where they lie, with what each layer weighs and who bears in it held ready, as searches ask it often. */
    private static final class Tower {
        private final int[] thickness = new int[MOST_BLOCKS];
        private final int[] weight = new int[MOST_LAYERS];
        private final int[] moment = new int[MOST_LAYERS];
        private final int[] bearing = new int[MOST_LAYERS];
        private int layers;

        Tower() {
            Arrays.fill(thickness, GAP);
        }

        static int fitThickness(int v) {
            return Math.max(0, Math.min(THICKEST, v));
        }

        /** The first sign that can't stand where it is, or NONE. */
        static int wrongSign(Text text) {
            int gaps = 0;
            for (int i = 0; i < text.length; i++) {
                int place = i % 4;
                gaps = place == 0 ? 0 : gaps;
                if (i / 4 >= MOST_LAYERS) {
                    return i;
                }
                if (place == 3 ? !text.isOneOf(i, "/") : !text.isOneOf(i, ".0123456789")) {
                    return i;
                }
                gaps += text.isOneOf(i, ".") ? 1 : 0;
                if (gaps == PLACES) {
                    return i;
                }
            }
            return text.length == 0 || text.length % 4 == 3 ? NONE : text.length;
        }

        void readFrom(Text text) {
            clear();
            for (int i = 0; i < text.length; i++) {
                if (text.isDigit(i)) {
                    put(i / 4 * PLACES + i % 4, text.signs[i] - '0');
                }
            }
        }

        void clear() {
            Arrays.fill(thickness, GAP);
            layers = 0;
        }

        void copyFrom(Tower other) {
            System.arraycopy(other.thickness, 0, thickness, 0, MOST_BLOCKS);
            System.arraycopy(other.weight, 0, weight, 0, MOST_LAYERS);
            System.arraycopy(other.moment, 0, moment, 0, MOST_LAYERS);
            System.arraycopy(other.bearing, 0, bearing, 0, MOST_LAYERS);
            layers = other.layers;
        }

        boolean has(int b) {
            return b >= 0 && b < MOST_BLOCKS && thickness[b] != GAP;
        }

        boolean hasLayer(int l) {
            return l >= 0 && l < layers;
        }

        void put(int b, int v) {
            if (b >= 0 && b < MOST_BLOCKS) {
                thickness[b] = v;
                layers = Math.max(layers, b / PLACES + 1);
                refresh(b / PLACES);
            }
        }

        /** Takes a block away and tells how thick it is; a layer that is left bare on top is no more. */
        int take(int b) {
            if (!has(b)) {
                return GAP;
            }
            int was = thickness[b];
            int l = b / PLACES;
            thickness[b] = GAP;
            refresh(l);
            if (l == layers - 1 && weight[l] == 0) {
                layers = l;
            }
            return was;
        }

        void carry(int from, int to) {
            put(to, take(from));
        }

        private void refresh(int l) {
            int left = thickness[PLACES * l];
            int middle = thickness[PLACES * l + 1];
            int right = thickness[PLACES * l + 2];
            int atLeft = left == GAP ? 0 : left + BARE_WEIGHT;
            int atMiddle = middle == GAP ? 0 : middle + BARE_WEIGHT;
            int atRight = right == GAP ? 0 : right + BARE_WEIGHT;
            weight[l] = atLeft + atMiddle + atRight;
            moment[l] = atRight - atLeft;
            bearing[l] = bearers(left, middle, right);
        }

        /** Those that bear of three (bits of places); GAP is thinner than any block, so it bears in no layer with one. */
        static int bearers(int left, int middle, int right) {
            int side = left > right ? left : right;
            int top = middle > side ? middle : side;
            if (top == GAP) {
                return 0;
            }
            int bits = (left == top ? 1 : 0) | (middle == top ? 2 : 0) | (right == top ? 4 : 0);
            int otherSide = bits == 1 ? right : left;
            int next = middle > otherSide ? middle : otherSide;
            if (bits != 1 && bits != 4 || next == GAP) {
                return bits;
            }
            return bits | (left == next ? 1 : 0) | (middle == next ? 2 : 0) | (right == next ? 4 : 0);
        }

        int blocksIn(int l) {
            int sum = 0;
            for (int p = 0; p < PLACES; p++) {
                sum += has(PLACES * l + p) ? 1 : 0;
            }
            return sum;
        }

        int blocksAbove(int l) {
            int sum = 0;
            for (int above = l + 1; above < layers; above++) {
                sum += blocksIn(above);
            }
            return sum;
        }

        boolean isTight(int b) {
            return has(b) && (bearing[b / PLACES] >> b % PLACES & 1) == 1;
        }

        int looseIn(int l) {
            int bits = 0;
            for (int p = 0; p < PLACES; p++) {
                bits |= has(PLACES * l + p) ? 1 << p : 0;
            }
            return hasLayer(l) ? bits & ~bearing[l] : 0;
        }

        /** Above every move that can be, so that a loop from 0 up meets them rising. */
        int movesEnd() {
            return 10 * PLACES * layers;
        }

        boolean canGo(int m) {
            if (m < 0 || m % 10 >= PLACES || !has(m / 10)) {
                return false;
            }
            int l = m / 10 / PLACES;
            int top = layers - 1;
            if (blocksIn(top) < PLACES) {
                return l < top - 1 && !has(PLACES * top + m % 10);
            }
            return l < top && layers < MOST_LAYERS;
        }

        /** Where the block of a move that can be comes to lie. */
        int landing(int m) {
            int top = layers - 1;
            return PLACES * (blocksIn(top) < PLACES ? top : layers) + m % 10;
        }
    }

    /** Weighs a tower on its table. */
    private static final class Balance {
        private static final int[] LEAST_PLACE = {0, 0, 1, 0, 2, 0, 1, 0};
        private static final int[] GREATEST_PLACE = {0, 0, 1, 1, 2, 2, 2, 2};
        private final int[] tilt = new int[2];
        private final int[] above = new int[MOST_LAYERS];
        private final int[] pull = new int[MOST_LAYERS];
        private final int[] margin = new int[MOST_LAYERS];
        private int broken = NONE;
        private int brokenMargin;
        private int weakestLayer = NONE;
        private int least;

        static int leastPlace(int bits) {
            return LEAST_PLACE[bits & 7];
        }

        static int greatestPlace(int bits) {
            return GREATEST_PLACE[bits & 7];
        }

        /** Whether it stands. From the top down, as a layer bears what the one above it bears, and that one. */
        boolean weigh(Tower t) {
            int all = 0;
            int lever = 0;
            int along = 0;
            int across = 0;
            broken = NONE;
            brokenMargin = 0;
            weakestLayer = NONE;
            least = 0;
            for (int l = t.layers - 1; l >= 0; l--) {
                boolean liesAlong = l % 2 == 0;
                lever += all;
                above[l] = all;
                pull[l] = 10 * (liesAlong ? along : across) + tilt[l % 2] * lever;
                margin[l] = marginOf(t.bearing[l], all, pull[l]);
                note(l, l == t.layers - 1);
                all += t.weight[l];
                along += liesAlong ? t.moment[l] : 0;
                across += liesAlong ? 0 : t.moment[l];
            }
            return broken == NONE;
        }

        private static int marginOf(int bits, int all, int pulled) {
            int left = 10 * all * (2 * (LEAST_PLACE[bits & 7] - 1) - 1);
            int right = 10 * all * (2 * (GREATEST_PLACE[bits & 7] - 1) + 1);
            return Math.min(2 * pulled - left, right - 2 * pulled);
        }

        /** Layers come from the top down here, so that the lowest of equal ones is the one that stays. */
        private void note(int l, boolean highest) {
            if (margin[l] < 0) {
                broken = l;
                brokenMargin = margin[l];
            }
            if (!highest && (weakestLayer == NONE || margin[l] <= least)) {
                weakestLayer = l;
                least = margin[l];
            }
        }
    }

    /** A tower with who is to move and how it fell: what is kept, and what a move changes. */
    private static final class State {
        private final Tower tower = new Tower();
        private int mover;
        private int feller = NONE;
        private int reason = NOT_FELLED;
        private int brokenLayer;
        private int brokenMargin;

        boolean isFelled() {
            return reason != NOT_FELLED;
        }

        void begin() {
            mover = 0;
            feller = NONE;
            reason = NOT_FELLED;
        }

        void fell(int why, int l, int margin) {
            feller = mover;
            reason = why;
            brokenLayer = l;
            brokenMargin = margin;
        }

        void copyFrom(State other) {
            tower.copyFrom(other.tower);
            mover = other.mover;
            feller = other.feller;
            reason = other.reason;
            brokenLayer = other.brokenLayer;
            brokenMargin = other.brokenMargin;
        }
    }

    /** The latest states that can come back, in a ring, so that the oldest gives way. */
    private static final class History {
        private static final int MOST = 15;
        private final State[] states = new State[MOST];
        private int next;
        private int size;

        History() {
            for (int i = 0; i < MOST; i++) {
                states[i] = new State();
            }
        }

        void clear() {
            size = 0;
        }

        void push(State state) {
            states[next].copyFrom(state);
            next = (next + 1) % MOST;
            size = Math.min(MOST, size + 1);
        }

        void popInto(State state) {
            if (size > 0) {
                next = (next + MOST - 1) % MOST;
                size--;
                state.copyFrom(states[next]);
            }
        }
    }

    /** The moves that a text tells. */
    private static final class MoveList {
        private static final int MOST_SIGNS = 70;
        private static final int FIRST_DIGIT = 0;
        private static final int DIGIT_OR_PLACE = 1;
        private static final int PLACE = 2;
        private static final int ARROW = 3;
        private static final int TOP_PLACE = 4;
        private static final int BETWEEN = 5;
        private final int[] moves = new int[MOST_SIGNS];
        private int size;
        private int reading;

        /** The first sign that can't stand where it is, or NONE. */
        int readFrom(Text text) {
            int end = Math.min(MOST_SIGNS, text.length);
            int expected = FIRST_DIGIT;
            size = 0;
            for (int i = 0; i < end; i++) {
                expected = step(text, i, expected);
                if (expected == NONE) {
                    return i;
                }
            }
            if (text.length > MOST_SIGNS) {
                return MOST_SIGNS;
            }
            return end == 0 || expected == BETWEEN ? NONE : end;
        }

        /** What is expected behind this sign; NONE if the sign can't stand there. */
        private int step(Text text, int i, int expected) {
            if (expected == BETWEEN) {
                return text.isOneOf(i, ";") ? FIRST_DIGIT : NONE;
            }
            if (expected == ARROW) {
                return text.isOneOf(i, ">") ? TOP_PLACE : NONE;
            }
            if (expected == FIRST_DIGIT || expected == DIGIT_OR_PLACE && text.isDigit(i)) {
                return readDigit(text, i, expected);
            }
            if (!text.isOneOf(i, "lmr")) {
                return NONE;
            }
            int place = "lmr".indexOf((char) text.signs[i]);
            if (expected == TOP_PLACE) {
                note(10 * reading + place);
                return BETWEEN;
            }
            reading = PLACES * reading + place;
            return ARROW;
        }

        private void note(int m) {
            if (size < MOST_SIGNS) {
                moves[size++] = m;
            }
        }

        private int readDigit(Text text, int i, int expected) {
            if (!text.isDigit(i)) {
                return NONE;
            }
            int digit = text.signs[i] - '0';
            reading = expected == FIRST_DIGIT ? digit : 10 * reading + digit;
            return expected == FIRST_DIGIT ? DIGIT_OR_PLACE : PLACE;
        }
    }

    /** THE RULE, read once into operators behind their things, so that odds need no reading. */
    private static final class Rule {
        private static final int MOST_SIGNS = 40;
        private static final int MOST_DEPTH = 4;
        private static final int MOST_DIGITS = 3;
        private static final String FACTS = "tklpqgnmhj";
        private static final int FACT = 1000;
        private static final int OPERATOR = 2000;
        private static final int NEGATE = 3000;
        private static final int OPEN = 4000;
        private final int[] code = new int[MOST_SIGNS];
        private final int[] draft = new int[MOST_SIGNS];
        private final int[] waiting = new int[MOST_SIGNS];
        private final int[] stack = new int[MOST_SIGNS];
        private final boolean[] compared = new boolean[MOST_DEPTH + 1];
        private int size;
        private int draftSize;
        private int waitingSize;
        private int depth;
        private int digits;
        private boolean wantsThing;

        Rule() {
            draftNone();
            adoptDraft();
        }

        /** The first sign that can't stand where it is, or NONE; the old rule stays if there is one. */
        int readFrom(Text text) {
            int end = Math.min(MOST_SIGNS, text.length);
            startReading();
            for (int i = 0; i < end; i++) {
                if (wantsThing ? !readThing(text, i) : !readBehindThing(text, i)) {
                    return i;
                }
            }
            if (text.length > MOST_SIGNS) {
                return MOST_SIGNS;
            }
            if (end > 0 && (wantsThing || depth > 0)) {
                return end;
            }
            if (end == 0) {
                draftNone();
            }
            releaseDownTo(0);
            adoptDraft();
            return NONE;
        }

        private void adoptDraft() {
            System.arraycopy(draft, 0, code, 0, MOST_SIGNS);
            size = draftSize;
        }

        private void startReading() {
            draftSize = 0;
            waitingSize = 0;
            depth = 0;
            digits = 0;
            wantsThing = true;
            compared[0] = false;
        }

        private void draftNone() {
            emit(FACT + FACTS.indexOf('h'));
            emit(FACT + FACTS.indexOf('t'));
            emit(OPERATOR + '*');
        }

        private void emit(int thing) {
            if (draftSize < MOST_SIGNS) {
                draft[draftSize++] = thing;
            }
        }

        private void postpone(int operator) {
            if (waitingSize < MOST_SIGNS) {
                waiting[waitingSize++] = operator;
            }
        }

        private boolean readThing(Text text, int i) {
            if (text.isOneOf(i, "-")) {
                postpone(NEGATE);
                return true;
            }
            if (text.isOneOf(i, "(") && depth < MOST_DEPTH) {
                postpone(OPEN);
                depth++;
                compared[depth] = false;
                return true;
            }
            if (text.isDigit(i)) {
                emit(text.signs[i] - '0');
                digits = 1;
            } else if (text.isOneOf(i, FACTS)) {
                emit(FACT + FACTS.indexOf((char) text.signs[i]));
                digits = 0;
            } else {
                return false;
            }
            wantsThing = false;
            return true;
        }

        private boolean readBehindThing(Text text, int i) {
            if (text.isDigit(i) && digits > 0 && digits < MOST_DIGITS && draftSize > 0) {
                draft[draftSize - 1] = 10 * draft[draftSize - 1] + text.signs[i] - '0';
                digits++;
                return true;
            }
            digits = 0;
            if (text.isOneOf(i, ")") && depth > 0) {
                releaseDownTo(0);
                waitingSize--;
                depth--;
                return true;
            }
            return text.isOneOf(i, "<>=+-*/") && readOperator(text.signs[i]);
        }

        private boolean readOperator(int sign) {
            int binding = bindingOf(OPERATOR + sign);
            if (binding == 1) {
                if (compared[depth]) {
                    return false;
                }
                compared[depth] = true;
            }
            releaseDownTo(binding);
            postpone(OPERATOR + sign);
            wantsThing = true;
            return true;
        }

        private static int bindingOf(int operator) {
            switch (operator - OPERATOR) {
                case '<':
                case '>':
                case '=':
                    return 1;
                case '+':
                case '-':
                    return 2;
                case '*':
                case '/':
                    return 3;
                default:
                    return 4;
            }
        }

        /** Those that wait since the latest open bracket and bind as much or more have both their things now. */
        private void releaseDownTo(int binding) {
            for (int n = waitingSize - 1; n >= 0; n--) {
                if (waiting[n] == OPEN || bindingOf(waiting[n]) < binding) {
                    return;
                }
                emit(waiting[n]);
                waitingSize = n;
            }
        }

        int valueOf(int[] facts) {
            int top = 0;
            for (int i = 0; i < size; i++) {
                int thing = code[i];
                if (thing == NEGATE && top > 0) {
                    stack[top - 1] = -stack[top - 1];
                } else if (thing >= OPERATOR && thing < NEGATE && top > 1) {
                    top--;
                    stack[top - 1] = apply(thing - OPERATOR, stack[top - 1], stack[top]);
                } else if (thing < OPERATOR && top < MOST_SIGNS) {
                    stack[top++] = thing < FACT ? thing : factOf(facts, thing - FACT);
                }
            }
            return top > 0 ? stack[0] : 0;
        }

        private static int factOf(int[] facts, int i) {
            return i >= 0 && i < facts.length ? facts[i] : 0;
        }

        private static int apply(int operator, int a, int b) {
            switch (operator) {
                case '+':
                    return a + b;
                case '-':
                    return a - b;
                case '*':
                    return a * b;
                case '/':
                    return b == 0 ? 0 : a / b;
                case '<':
                    return a < b ? 1 : 0;
                case '>':
                    return a > b ? 1 : 0;
                default:
                    return a == b ? 1 : 0;
            }
        }
    }

    /** Looks through moves: which are safe, how likely they fail, which one is to be taken. */
    private static final class Chooser {
        private final Balance balance;
        private final Rule rule;
        private final int[] facts = new int[10];
        private int safe;
        private int can;
        private int first;
        private int last;
        private int chosen;
        private int chosenOdds;
        private int chosenJerk;
        private int left;

        Chooser(Balance balance, Rule rule) {
            this.balance = balance;
            this.rule = rule;
        }

        /** Tried on the tower itself and taken back; if it is safe, balance tells of the tower with the block on top. */
        boolean isSafe(Tower t, int m) {
            int b = m / 10;
            if (!t.canGo(m) || t.blocksIn(b / PLACES) < 2) {
                return false;
            }
            int spot = t.landing(m);
            int thickness = t.take(b);
            boolean holds = balance.weigh(t);
            if (holds) {
                t.put(spot, thickness);
                holds = balance.weigh(t);
                t.take(spot);
            }
            t.put(b, thickness);
            return holds;
        }

        void survey(Tower t) {
            int end = t.movesEnd();
            safe = 0;
            can = 0;
            first = NONE;
            last = NONE;
            for (int m = 0; m < end; m++) {
                can += t.canGo(m) ? 1 : 0;
                if (isSafe(t, m)) {
                    safe++;
                    first = first == NONE ? m : first;
                    last = m;
                }
            }
        }

        void noteFacts(Tower t, int m, int hand) {
            int b = m / 10;
            int l = b / PLACES;
            balance.weigh(t);
            facts[0] = t.isTight(b) ? 1 : 0;
            facts[1] = t.has(b) ? t.thickness[b] : 0;
            facts[2] = l;
            facts[3] = b % PLACES;
            facts[4] = m % 10;
            facts[5] = PLACES - t.blocksIn(l);
            facts[6] = t.layers;
            facts[7] = t.hasLayer(l) ? balance.margin[l] / 100 : 0;
            facts[8] = hand;
        }

        /** Odds of the safe move whose facts were noted. */
        int oddsNow(int jerk) {
            facts[9] = jerk;
            return Math.max(0, Math.min(CERTAIN, rule.valueOf(facts)));
        }

        void findBest(Tower t, int hand) {
            int end = t.movesEnd();
            chosen = NONE;
            for (int m = 0; m < end; m++) {
                if (isSafe(t, m)) {
                    noteFacts(t, m, hand);
                    preferLower(m, 0);
                    preferLower(m, 1);
                }
            }
        }

        /** As moves come rising, only a pull takes the place of an equal jerk. */
        private void preferLower(int m, int jerk) {
            int odds = oddsNow(jerk);
            if (chosen == NONE || odds < chosenOdds || odds == chosenOdds && jerk < chosenJerk) {
                chosen = m;
                chosenOdds = odds;
                chosenJerk = jerk;
            }
        }

        void findMeanest(Tower t, int hand) {
            int end = t.movesEnd();
            chosen = NONE;
            for (int m = 0; m < end; m++) {
                if (isSafe(t, m)) {
                    noteFacts(t, m, hand);
                    int odds = oddsNow(0);
                    int spot = t.landing(m);
                    t.carry(m / 10, spot);
                    survey(t);
                    t.carry(spot, m / 10);
                    if (chosen == NONE || safe < left || safe == left && odds < chosenOdds) {
                        chosen = m;
                        chosenOdds = odds;
                        left = safe;
                    }
                }
            }
        }

        void findSteadiest(Tower t, int b) {
            chosen = NONE;
            for (int place = 0; place < PLACES; place++) {
                if (isSafe(t, 10 * b + place) && (chosen == NONE || balance.least > left)) {
                    chosen = place;
                    left = balance.least;
                }
            }
        }

        void findLikeliest(Tower t, int hand, int nextHand, int n) {
            int end = t.movesEnd();
            int likeliest = NONE;
            int most = 0;
            for (int m = 0; m < end; m++) {
                if (isSafe(t, m)) {
                    noteFacts(t, m, hand);
                    int chances = CERTAIN - Math.min(oddsNow(0), oddsNow(1));
                    if (n == 2) {
                        chances *= chancesBehind(t, m, nextHand);
                    }
                    if (chances > most) {
                        most = chances;
                        likeliest = m;
                    }
                }
            }
            chosen = likeliest;
            left = most;
        }

        private int chancesBehind(Tower t, int m, int hand) {
            int spot = t.landing(m);
            t.carry(m / 10, spot);
            findBest(t, hand);
            t.carry(spot, m / 10);
            return chosen == NONE ? 0 : CERTAIN - chosenOdds;
        }
    }

    /**
     * All towers that can come by safe moves, as they are found.
     * Every move lays one block more on top, so a tower is always found behind the same number of moves,
     * and those that come from it have higher numbers: going down through the numbers meets them first.
     */
    private static final class Games {
        private static final int MOST_FOUND = 400;
        private static final int MOST_MOVES = 126;
        private static final int MOST_TOLD = 10;
        private static final int SLOTS = 1024;
        private static final int WORDS = 3;
        private static final int PER_WORD = 16;
        private final Chooser chooser;
        private final Tower work = new Tower();
        private final long[] keys = new long[WORDS * MOST_FOUND];
        private final long[] key = new long[WORDS];
        private final int[] slots = new int[SLOTS];
        private final int[] parent = new int[MOST_FOUND];
        private final int[] byMove = new int[MOST_FOUND];
        private final int[] depth = new int[MOST_FOUND];
        private final int[] height = new int[MOST_FOUND];
        private final int[] value = new int[MOST_FOUND];
        private final int[] firstEdge = new int[MOST_FOUND + 1];
        private final int[] edges = new int[MOST_FOUND * MOST_MOVES];
        private final int[] path = new int[MOST_BLOCKS];
        private int edgeCount;
        private int found;
        private boolean more;

        Games(Chooser chooser) {
            this.chooser = chooser;
        }

        void search(Tower root, boolean felled) {
            Arrays.fill(slots, 0);
            edgeCount = 0;
            found = 0;
            more = false;
            packKey(root);
            nodeOfKey();
            noteOrigin(0, NONE, NONE, root.layers);
            for (int i = 0; i < MOST_FOUND && i < found && !more; i++) {
                firstEdge[i] = edgeCount;
                if (!felled) {
                    expand(i);
                }
                firstEdge[i + 1] = edgeCount;
            }
        }

        private void expand(int node) {
            unpack(node);
            int end = work.movesEnd();
            for (int m = 0; m < end && !more; m++) {
                if (chooser.isSafe(work, m)) {
                    follow(node, m);
                }
            }
        }

        private void follow(int node, int m) {
            int had = found;
            int spot = work.landing(m);
            System.arraycopy(keys, WORDS * node, key, 0, WORDS);
            setInKey(m / 10, GAP);
            setInKey(spot, work.thickness[m / 10]);
            int next = nodeOfKey();
            if (next == NONE) {
                more = true;
                return;
            }
            if (found > had) {
                noteOrigin(next, node, m, spot / PLACES + 1);
            }
            if (edgeCount < edges.length) {
                edges[edgeCount++] = m * SLOTS + next;
            }
        }

        private void noteOrigin(int node, int from, int m, int layers) {
            parent[node] = from;
            byMove[node] = m;
            depth[node] = from == NONE ? 0 : depth[from] + 1;
            height[node] = layers;
        }

        private void packKey(Tower t) {
            Arrays.fill(key, 0L);
            for (int b = 0; b < MOST_BLOCKS; b++) {
                setInKey(b, t.thickness[b]);
            }
        }

        /** Four bits for each place, 0 for a gap. */
        private void setInKey(int b, int thickness) {
            int shift = 4 * (b % PER_WORD);
            int word = b / PER_WORD;
            key[word] = key[word] & ~(15L << shift) | (long) (thickness + 1) << shift;
        }

        private int thicknessIn(int node, int b) {
            return (int) (keys[WORDS * node + b / PER_WORD] >>> 4 * (b % PER_WORD) & 15L) - 1;
        }

        private void unpack(int node) {
            work.clear();
            for (int b = 0; b < PLACES * height[node]; b++) {
                int thickness = thicknessIn(node, b);
                if (thickness != GAP) {
                    work.put(b, thickness);
                }
            }
        }

        /** The node that has this key, a new one if there is room; else NONE. */
        private int nodeOfKey() {
            int slot = slotOfKey();
            for (int n = 0; n < SLOTS && slots[slot] != 0; n++) {
                if (hasKey(slots[slot] - 1)) {
                    return slots[slot] - 1;
                }
                slot = (slot + 1) % SLOTS;
            }
            if (found >= MOST_FOUND) {
                return NONE;
            }
            System.arraycopy(key, 0, keys, WORDS * found, WORDS);
            slots[slot] = found + 1;
            return found++;
        }

        private int slotOfKey() {
            long mixed = 0;
            for (int w = 0; w < WORDS; w++) {
                mixed = (mixed ^ key[w]) * 0x9E3779B97F4A7C15L;
                mixed ^= mixed >>> 29;
            }
            return (int) (mixed >>> 32) & SLOTS - 1;
        }

        private boolean hasKey(int node) {
            for (int w = 0; w < WORDS; w++) {
                if (keys[WORDS * node + w] != key[w]) {
                    return false;
                }
            }
            return true;
        }

        private static int targetOf(int edge) {
            return edge % SLOTS;
        }

        void valueWins() {
            for (int i = found - 1; i >= 0; i--) {
                value[i] = 0;
                for (int e = firstEdge[i]; e < firstEdge[i + 1]; e++) {
                    if (value[targetOf(edges[e])] == 0) {
                        value[i] = 1;
                    }
                }
            }
        }

        void valueLengths(boolean longest) {
            for (int i = found - 1; i >= 0; i--) {
                value[i] = 0;
                for (int e = firstEdge[i]; e < firstEdge[i + 1]; e++) {
                    int length = value[targetOf(edges[e])] + 1;
                    if (value[i] == 0 || (longest ? length > value[i] : length < value[i])) {
                        value[i] = length;
                    }
                }
            }
        }

        private int leastEdgeTo(int node, int wanted) {
            for (int e = firstEdge[node]; e < firstEdge[node + 1]; e++) {
                if (value[targetOf(edges[e])] == wanted) {
                    return edges[e];
                }
            }
            return NONE;
        }

        /** The least move by which a tower with that value comes, or NONE. */
        int leastMoveTo(int node, int wanted) {
            int edge = leastEdgeTo(node, wanted);
            return edge == NONE ? NONE : edge / SLOTS;
        }

        /** The least move at each step makes the least row. */
        void tellBestPath(Row row) {
            int node = 0;
            row.clear();
            for (int n = 0; n < MOST_TOLD && value[node] > 0; n++) {
                int edge = leastEdgeTo(node, value[node] - 1);
                if (edge == NONE) {
                    return;
                }
                row.add(edge / SLOTS);
                node = targetOf(edge);
            }
        }

        /** As towers are found by rising moves, the first found has the least row of moves. */
        int firstHighest() {
            int node = 0;
            for (int i = 1; i < found; i++) {
                if (height[i] > height[node]) {
                    node = i;
                }
            }
            return node;
        }

        int firstWithGap(int b) {
            for (int i = 0; i < found; i++) {
                if (thicknessIn(i, b) == GAP) {
                    return i;
                }
            }
            return NONE;
        }

        private void tracePath(int node) {
            int at = node;
            for (int n = depth[node] - 1; n >= 0 && n < MOST_BLOCKS && at > 0; n--) {
                path[n] = byMove[at];
                at = parent[at];
            }
        }

        int firstMoveTo(int node) {
            tracePath(node);
            return depth[node] == 0 ? NONE : path[0];
        }

        void tellPathTo(int node, Row row) {
            tracePath(node);
            row.clear();
            for (int n = 0; n < MOST_TOLD && n < depth[node]; n++) {
                row.add(path[n]);
            }
        }

        int ends() {
            int sum = 0;
            for (int i = 0; i < found; i++) {
                sum += firstEdge[i] == firstEdge[i + 1] ? 1 : 0;
            }
            return sum;
        }
    }

    /** What was felt and is known of blocks, and what they can be by it. */
    private static final class Touches {
        private static final int MOST = 20;
        private final int[] blocks = new int[MOST];
        private final boolean[] tight = new boolean[MOST];
        private final int[] low = new int[MOST_BLOCKS];
        private final int[] high = new int[MOST_BLOCKS];
        private final int[] from = new int[PLACES];
        private final int[] to = new int[PLACES];
        private final int[] tightRows = new int[PLACES];
        private final int[] spans = new int[PLACES];
        private final int[] leastRow = new int[PLACES];
        private final int[] greatestRow = new int[PLACES];
        private int size;
        private int rows;

        Touches() {
            clear();
        }

        void clear() {
            size = 0;
            Arrays.fill(low, 0);
            Arrays.fill(high, THICKEST);
        }

        boolean tell(int b, boolean wasTight) {
            if (size >= MOST) {
                return false;
            }
            blocks[size] = b;
            tight[size++] = wasTight;
            return true;
        }

        /** Touches of one kind in a layer (bits of places); what was felt of a block that is gone says nothing of the others. */
        private int touched(Tower t, int layer, boolean wasTight) {
            int bits = 0;
            for (int i = 0; i < size; i++) {
                if (blocks[i] / PLACES == layer && tight[i] == wasTight && t.has(blocks[i])) {
                    bits |= 1 << blocks[i] % PLACES;
                }
            }
            return bits;
        }

        /** Goes through all rows of a layer that is there, the least first; a gap has itself alone. */
        void sift(Tower t, int layer) {
            for (int p = 0; p < PLACES; p++) {
                int b = PLACES * layer + p;
                from[p] = t.has(b) ? low[b] : GAP;
                to[p] = t.has(b) ? high[b] : GAP;
            }
            int mustBear = touched(t, layer, true);
            int mustNot = touched(t, layer, false);
            rows = 0;
            Arrays.fill(tightRows, 0);
            Arrays.fill(spans, 0);
            for (int left = from[0]; left <= to[0]; left++) {
                for (int middle = from[1]; middle <= to[1]; middle++) {
                    for (int right = from[2]; right <= to[2]; right++) {
                        int bits = Tower.bearers(left, middle, right);
                        if ((bits & mustBear) == mustBear && (bits & mustNot) == 0) {
                            noteRow(left, middle, right, bits);
                        }
                    }
                }
            }
        }

        private void noteRow(int left, int middle, int right, int bits) {
            greatestRow[0] = left;
            greatestRow[1] = middle;
            greatestRow[2] = right;
            if (rows == 0) {
                System.arraycopy(greatestRow, 0, leastRow, 0, PLACES);
            }
            rows++;
            for (int p = 0; p < PLACES; p++) {
                tightRows[p] += bits >> p & 1;
                spans[p] |= greatestRow[p] == GAP ? 0 : 1 << greatestRow[p];
            }
        }
    }
}
