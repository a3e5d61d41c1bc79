import java.util.Arrays;

/**
 * Moves of at most eight points, all that they make together, and the sets of points that these
 * carry to one another. Words in capitals are the document's.
 */
public final class CarriedSets {
    public static final int NONE = -1, BAD = -2, NO = -3, FULL = -4;

    private static final int NOT_SO_MANY = -5;
    private static final int FAULT_FROM = -10;
    private static final int STOP_FROM = -1000;

    private static final int MOST_POINTS = 8;
    private static final int FIRST_POINTS = 5;
    private static final int MOST_GENERATORS = 3;
    private static final int MOST_STATES = 5;
    private static final int MOST_BYTES = 80;
    private static final int MOST_SETS = 256;

    private final Setup now = new Setup();
    private final States states = new States();
    private final Text text = new Text();
    private final Reader reader = new Reader();
    private final Elements elements = new Elements();
    private final Carried carried = new Carried();
    private boolean fits = false;
    private int refusedBad = 0;
    private int refusedNo = 0;
    private int refusedFull = 0;

    public CarriedSets() {
    }

    // ---- moves

    public int points(int n) {
        if (n < 1 || n > MOST_POINTS) {
            return refuse(BAD);
        }
        int before = now.n;
        keepState();
        now.start(n);
        return before;
    }

    public int moves(int code) {
        int move = Move.read(code, now.n);
        if (move == Move.NO_MOVE) {
            return refuse(BAD);
        }
        if (now.count >= MOST_GENERATORS) {
            return refuse(FULL);
        }
        keepState();
        now.adds(move);
        return now.count - 1;
    }

    public int drops(int i) {
        if (i < 0 || i >= now.count) {
            return refuse(BAD);
        }
        keepState();
        now.loses(i);
        return now.count;
    }

    public int order() {
        fit();
        return elements.howMany();
    }

    public int of(int p, int what) {
        if (p < 0 || p >= now.n || what < 0 || what > 2) {
            return refuse(BAD);
        }
        fit();
        return tellPoint(p, what);
    }

    public int number(int code) {
        int move = Move.read(code, now.n);
        if (move == Move.NO_MOVE) {
            return refuse(BAD);
        }
        fit();
        return elements.rank(move);
    }

    public int element(int n) {
        if (n < 0) {
            return refuse(BAD);
        }
        fit();
        if (n >= elements.howMany()) {
            return refuse(NO);
        }
        return Move.write(elements.withRank(n), now.n);
    }

    // ---- sets

    public int image(int set, int code) {
        int move = Move.read(code, now.n);
        if (!isSet(set) || move == Move.NO_MOVE) {
            return refuse(BAD);
        }
        return Move.carry(set, move);
    }

    public int least(int set) {
        if (!isSet(set)) {
            return refuse(BAD);
        }
        fit();
        return carried.first(set);
    }

    public int images(int set, int i) {
        if (!isSet(set) || i < NONE) {
            return refuse(BAD);
        }
        fit();
        return i == NONE ? carried.countWith(set) : carried.nthWith(set, i);
    }

    public int carrier(int set, int to) {
        if (!isSet(set) || !isSet(to) || Integer.bitCount(set) != Integer.bitCount(to)) {
            return refuse(BAD);
        }
        fit();
        int move = carried.firstMove(elements, set, to);
        return move == Move.NO_MOVE ? NONE : Move.write(move, now.n);
    }

    public int holds(int set) {
        if (!isSet(set)) {
            return refuse(BAD);
        }
        fit();
        // each of the images is made by equally many elements
        int count = carried.countWith(set);
        return count > 0 ? elements.howMany() / count : 0;
    }

    public int heads(int size, int i) {
        if (size < 0 || size > now.n || i < NONE) {
            return refuse(BAD);
        }
        fit();
        return i == NONE ? carried.countFirsts(size) : carried.nthFirst(size, i);
    }

    public int head(int set) {
        if (!isSet(set)) {
            return refuse(BAD);
        }
        fit();
        return carried.placeOfFirst(set);
    }

    // ---- texts

    public int type(int c) {
        if (c < 0 || c > 127) {
            return refuse(BAD);
        }
        if (text.length >= MOST_BYTES) {
            return refuse(FULL);
        }
        text.add(c);
        return text.length;
    }

    public int clear() {
        int before = text.length;
        text.length = 0;
        return before;
    }

    public int reads() {
        int fault = reader.read(text, now);
        if (fault != NONE) {
            return FAULT_FROM - fault;
        }
        if (reader.stopped != NONE) {
            return STOP_FROM - reader.stopped;
        }
        keepState();
        now.copy(reader.trial);
        return reader.done;
    }

    public int back() {
        if (states.count <= 0) {
            return refuse(NO);
        }
        states.pop(now);
        fits = false;
        return states.count;
    }

    public int told(int what) {
        return what < 0 || what > 6 ? refuse(BAD) : tell(what);
    }

    public long digest() {
        fit();
        long h = 2477;
        for (int what = 0; what <= 6; what++) {
            h = 31 * h + tell(what);
        }
        for (int i = 0; i < now.count; i++) {
            h = 31 * h + Move.write(now.generator(i), now.n);
        }
        h = 31 * h + elements.howMany();
        for (int p = 0; p < now.n; p++) {
            for (int what = 0; what <= 2; what++) {
                h = 31 * h + tellPoint(p, what);
            }
        }
        for (int size = 0; size <= now.n; size++) {
            h = carried.digestFirsts(size, h);
        }
        return h;
    }

    // ---- what the calls share

    private int refuse(int why) {
        if (why == BAD) {
            refusedBad++;
        } else if (why == NO) {
            refusedNo++;
        } else {
            refusedFull++;
        }
        return why;
    }

    private boolean isSet(int set) {
        return set >= 0 && set < 1 << now.n;
    }

    private void keepState() {
        states.push(now);
        fits = false;
    }

    /** Many calls may change the GENERATORS before one asks, so only the asking ones work it out. */
    private void fit() {
        if (!fits) {
            elements.make(now);
            carried.make(elements, now.n);
            fits = true;
        }
    }

    private int tellPoint(int p, int what) {
        switch (what) {
            case 0:
                return carried.orbit(p);
            case 1:
                return elements.chain(p);
            default:
                return carried.leastPoint(p);
        }
    }

    private int tell(int what) {
        switch (what) {
            case 0:
                return refusedBad;
            case 1:
                return refusedNo;
            case 2:
                return refusedFull;
            case 3:
                return text.length;
            case 4:
                return now.n;
            case 5:
                return now.count;
            default:
                return states.count;
        }
    }

    /**
     * A MOVE in one int, three bits for each of eight POINTS. Those from N on stay where they are,
     * so that N matters only where a MOVE is read or written as a number.
     */
    private static final class Move {
        static final int STAY = 076543210;
        static final int NO_MOVE = -1;

        static int at(int move, int p) {
            return move >>> 3 * p & 7;
        }

        static int then(int first, int second) {
            int both = 0;
            for (int shift = 0; shift < 3 * MOST_POINTS; shift += 3) {
                both |= (second >>> 3 * (first >>> shift & 7) & 7) << shift;
            }
            return both;
        }

        static int inverse(int move) {
            int undone = 0;
            for (int p = 0; p < MOST_POINTS; p++) {
                undone |= p << 3 * (move >>> 3 * p & 7);
            }
            return undone;
        }

        static int carry(int set, int move) {
            int to = 0;
            int left = set;
            for (int shift = 0; shift < 3 * MOST_POINTS && left != 0; shift += 3) {
                to |= (left & 1) << (move >>> shift & 7);
                left >>>= 1;
            }
            return to;
        }

        /** The MOVE of a number with n figures, or NO_MOVE. */
        static int read(int code, int n) {
            int left = code;
            int seen = 0;
            int move = STAY;
            for (int p = n - 1; p >= 0; p--) {
                int q = left % 10;
                left /= 10;
                if (q < 0 || q >= n || (seen >> q & 1) != 0) {
                    return NO_MOVE;
                }
                seen |= 1 << q;
                move = move & ~(7 << 3 * p) | q << 3 * p;
            }
            return left == 0 ? move : NO_MOVE;
        }

        static int write(int move, int n) {
            int code = 0;
            for (int p = 0; p < n; p++) {
                code = 10 * code + at(move, p);
            }
            return code;
        }
    }

    /** N and the GENERATORS: what a STATE goes back to. */
    private static final class Setup {
        int n = FIRST_POINTS;
        int count = 0;
        private final int[] generators = new int[MOST_GENERATORS];

        void start(int newN) {
            n = newN;
            count = 0;
        }

        int generator(int i) {
            return i >= 0 && i < count ? generators[i] : Move.STAY;
        }

        boolean adds(int move) {
            if (count >= MOST_GENERATORS) {
                return false;
            }
            generators[count] = move;
            count++;
            return true;
        }

        boolean loses(int i) {
            if (i < 0 || i >= count) {
                return false;
            }
            for (int k = i + 1; k < count; k++) {
                generators[k - 1] = generators[k];
            }
            count--;
            return true;
        }

        void copy(Setup from) {
            n = from.n;
            count = from.count;
            System.arraycopy(from.generators, 0, generators, 0, MOST_GENERATORS);
        }
    }

    /** The newest STATES, the oldest of them first. */
    private static final class States {
        int count = 0;
        private final Setup[] rows = new Setup[MOST_STATES];

        States() {
            for (int k = 0; k < MOST_STATES; k++) {
                rows[k] = new Setup();
            }
        }

        void push(Setup setup) {
            if (count >= MOST_STATES) {
                loseOldest();
            }
            rows[count].copy(setup);
            count++;
        }

        void pop(Setup into) {
            if (count > 0) {
                count--;
                into.copy(rows[count]);
            }
        }

        private void loseOldest() {
            Setup oldest = rows[0];
            for (int k = 1; k < MOST_STATES; k++) {
                rows[k - 1] = rows[k];
            }
            rows[MOST_STATES - 1] = oldest;
            count = MOST_STATES - 1;
        }
    }

    /**
     * The ELEMENTS, held as steps: for each POINT p and each POINT q of its CHAIN one ELEMENT that
     * moves p to q and leaves all POINTS less than p. Each ELEMENT is, in just one way, a step of
     * the last POINT, then one of the POINT ahead of it, and so on, last one of POINT 0.
     */
    private static final class Elements {
        private static final int MOST_STEPS = 28;

        private int n = 0;
        private final int[] steps = new int[MOST_POINTS * MOST_POINTS];
        private final int[] undoing = new int[MOST_POINTS * MOST_POINTS];
        private final int[] chains = new int[MOST_POINTS];
        /** At p: how many ELEMENTS leave all POINTS less than p. */
        private final int[] leaving = new int[MOST_POINTS + 1];
        private final int[] found = new int[MOST_STEPS];
        private final int[] foundAt = new int[MOST_STEPS];
        private int foundCount = 0;

        int howMany() {
            return leaving[0];
        }

        int chain(int p) {
            return p >= 0 && p < MOST_POINTS ? chains[p] : 0;
        }

        int step(int p, int q) {
            return steps[MOST_POINTS * (p & 7) + (q & 7)];
        }

        void make(Setup setup) {
            n = setup.n;
            foundCount = 0;
            for (int p = 0; p < MOST_POINTS; p++) {
                chains[p] = 1 << p;
                steps[MOST_POINTS * p + p] = Move.STAY;
            }
            for (int i = 0; i < setup.count; i++) {
                take(setup.generator(i));
            }
            closeSteps();
            leaving[MOST_POINTS] = 1;
            for (int p = MOST_POINTS - 1; p >= 0; p--) {
                leaving[p] = leaving[p + 1] * Integer.bitCount(chains[p]);
            }
        }

        /** Takes off step by step; where a step is wanting, what is left becomes that step. */
        private void take(int move) {
            int left = move;
            for (int p = 0; p < MOST_POINTS && left != Move.STAY; p++) {
                int q = Move.at(left, p);
                if ((chains[p] >> q & 1) == 0) {
                    addStep(p, q, left);
                    return;
                }
                if (q != p) {
                    left = Move.then(left, undoing[MOST_POINTS * p + q]);
                }
            }
        }

        private void addStep(int p, int q, int move) {
            if (foundCount < MOST_STEPS) {
                chains[p] |= 1 << q;
                steps[MOST_POINTS * p + q] = move;
                undoing[MOST_POINTS * p + q] = Move.inverse(move);
                found[foundCount] = move;
                foundAt[foundCount] = p;
                foundCount++;
            }
        }

        /**
         * When each product of two steps is made of steps, all products are. A step of a greater
         * POINT, then one of a lesser, is so as it stands, and needs no look.
         */
        private void closeSteps() {
            for (int k = 0; k < foundCount && k < MOST_STEPS; k++) {
                for (int j = 0; j <= k; j++) {
                    if (foundAt[j] <= foundAt[k]) {
                        take(Move.then(found[j], found[k]));
                    }
                    if (foundAt[k] <= foundAt[j]) {
                        take(Move.then(found[k], found[j]));
                    }
                }
            }
        }

        /** To which POINTS p is moved by the ELEMENTS that move all less than p as begun does. */
        int choices(int begun, int p) {
            return Move.carry(chain(p), begun);
        }

        /** An ELEMENT that moves all POINTS less than p as begun does, and p to q, a choice. */
        int goOn(int begun, int p, int q) {
            return Move.then(step(p, Move.at(Move.inverse(begun), q)), begun);
        }

        int rank(int move) {
            int begun = Move.STAY;
            int ahead = 0;
            for (int p = 0; p < n && p < MOST_POINTS; p++) {
                int q = Move.at(move, p);
                int choices = choices(begun, p);
                if ((choices >> q & 1) == 0) {
                    return NONE;
                }
                ahead += Integer.bitCount(choices & (1 << q) - 1) * leaving[p + 1];
                begun = goOn(begun, p, q);
            }
            return ahead;
        }

        int withRank(int rank) {
            int begun = Move.STAY;
            int left = rank;
            for (int p = 0; p < n && p < MOST_POINTS; p++) {
                int choices = choices(begun, p);
                int q = 0;
                while (q < MOST_POINTS - 1 && ((choices >> q & 1) == 0 || left >= leaving[p + 1])) {
                    left -= (choices >> q & 1) * leaving[p + 1];
                    q++;
                }
                begun = goOn(begun, p, q);
            }
            return begun;
        }
    }

    /** Which SETS the ELEMENTS carry to one another. */
    private static final class Carried {
        private int n = 0;
        private final int[] inOrder = new int[MOST_SETS];
        private final int[] starts = new int[MOST_POINTS + 2];
        private final int[] firsts = new int[MOST_SETS];
        private final int[] reached = new int[MOST_SETS];
        private final int[] reachedAt = new int[MOST_SETS];
        private int reachedCount = 0;

        Carried() {
            Arrays.fill(reachedAt, NONE);
        }

        void make(Elements elements, int newN) {
            if (n != newN) {
                n = newN;
                arrange();
            }
            Arrays.fill(firsts, NONE);
            for (int k = 0; k < 1 << n; k++) {
                int set = inOrder[k];
                if (firsts[set] == NONE) {
                    spread(elements, set);
                    for (int j = 0; j < reachedCount; j++) {
                        firsts[reached[j]] = set;
                    }
                }
            }
        }

        /** By size, and of like size the one that is ahead: turned round, it is the greater number. */
        private void arrange() {
            int count = 0;
            for (int size = 0; size <= n; size++) {
                starts[size] = count;
                for (int turned = (1 << n) - 1; turned >= 0; turned--) {
                    if (Integer.bitCount(turned) == size) {
                        inOrder[count] = turnRound(turned);
                        count++;
                    }
                }
            }
            starts[n + 1] = count;
        }

        private int turnRound(int set) {
            int turned = 0;
            for (int p = 0; p < n; p++) {
                turned = turned << 1 | set >> p & 1;
            }
            return turned;
        }

        /**
         * Reaches all IMAGES of a SET; those by ELEMENTS that leave all POINTS less than p at p or
         * at a greater POINT, since each such ELEMENT is one that leaves p, too, then a step of p.
         */
        private void spread(Elements elements, int set) {
            for (int k = 0; k < reachedCount; k++) {
                reachedAt[reached[k]] = NONE;
            }
            reachedCount = 0;
            reach(set, n);
            for (int p = n - 1; p >= 0; p--) {
                int before = reachedCount;
                int others = elements.chain(p) & ~(1 << p);
                for (int q = p + 1; q < n && others != 0; q++) {
                    if ((others >> q & 1) != 0) {
                        spreadBy(elements.step(p, q), p, before);
                    }
                }
            }
        }

        private void spreadBy(int move, int p, int before) {
            for (int k = 0; k < before; k++) {
                reach(Move.carry(reached[k], move), p);
            }
        }

        private void reach(int set, int p) {
            if (reachedAt[set] == NONE && reachedCount < MOST_SETS) {
                reachedAt[set] = p;
                reached[reachedCount] = set;
                reachedCount++;
            }
        }

        /** The CARRIER, or NO_MOVE. */
        int firstMove(Elements elements, int set, int to) {
            spread(elements, set);
            if (reachedAt[to] == NONE) {
                return Move.NO_MOVE;
            }
            int begun = Move.STAY;
            for (int p = 0; p < n; p++) {
                begun = goOnTowards(elements, begun, p, to);
            }
            return begun;
        }

        /** The first choice for p by which ELEMENTS that leave all up to p can still make it good. */
        private int goOnTowards(Elements elements, int begun, int p, int to) {
            int choices = elements.choices(begun, p);
            for (int q = 0; q < n; q++) {
                if ((choices >> q & 1) != 0) {
                    int longer = elements.goOn(begun, p, q);
                    if (reachedAt[Move.carry(to, Move.inverse(longer))] > p) {
                        return longer;
                    }
                }
            }
            return begun;
        }

        int first(int set) {
            return firsts[set & MOST_SETS - 1];
        }

        private int start(int size) {
            return starts[Math.max(0, Math.min(size, n + 1))];
        }

        int countWith(int set) {
            int size = Integer.bitCount(set);
            int first = first(set);
            int count = 0;
            for (int k = start(size); k < start(size + 1); k++) {
                if (first(inOrder[k]) == first) {
                    count++;
                }
            }
            return count;
        }

        int nthWith(int set, int i) {
            int size = Integer.bitCount(set);
            int first = first(set);
            int left = i;
            for (int k = start(size); k < start(size + 1); k++) {
                if (first(inOrder[k]) == first) {
                    if (left == 0) {
                        return inOrder[k];
                    }
                    left--;
                }
            }
            return NOT_SO_MANY;
        }

        private boolean isFirst(int set) {
            return first(set) == set;
        }

        int countFirsts(int size) {
            int count = 0;
            for (int k = start(size); k < start(size + 1); k++) {
                if (isFirst(inOrder[k])) {
                    count++;
                }
            }
            return count;
        }

        int nthFirst(int size, int i) {
            int left = i;
            for (int k = start(size); k < start(size + 1); k++) {
                if (isFirst(inOrder[k])) {
                    if (left == 0) {
                        return inOrder[k];
                    }
                    left--;
                }
            }
            return NOT_SO_MANY;
        }

        int placeOfFirst(int set) {
            int size = Integer.bitCount(set);
            int ahead = 0;
            for (int k = start(size); k < start(size + 1) && inOrder[k] != first(set); k++) {
                if (isFirst(inOrder[k])) {
                    ahead++;
                }
            }
            return ahead;
        }

        long digestFirsts(int size, long before) {
            long h = 31 * before + countFirsts(size);
            for (int k = start(size); k < start(size + 1); k++) {
                if (isFirst(inOrder[k])) {
                    h = 31 * h + inOrder[k];
                }
            }
            return h;
        }

        int orbit(int p) {
            int bits = 0;
            for (int q = 0; q < n; q++) {
                if (first(1 << q) == first(1 << p)) {
                    bits |= 1 << q;
                }
            }
            return bits;
        }

        int leastPoint(int p) {
            int q = 0;
            while (q < p && first(1 << q) != first(1 << p)) {
                q++;
            }
            return q;
        }
    }

    private static final class Text {
        int length = 0;
        private final byte[] bytes = new byte[MOST_BYTES];

        void add(int c) {
            if (length < MOST_BYTES) {
                bytes[length] = (byte) c;
                length++;
            }
        }

        int at(int i) {
            return i >= 0 && i < length ? bytes[i] : NONE;
        }
    }

    /**
     * Goes through THE TEXT once, doing its ORDERS on a trial. Behind an ORDER that is refused it
     * goes on, for a FAULT may still come; refused ones change nothing, so N is known all along.
     */
    private static final class Reader {
        private static final int LETTER = 0, FIGURE = 1, END = 2;

        final Setup trial = new Setup();
        int done = 0;
        int stopped = NONE;
        private int due = LETTER;
        private int letter = 0;
        private int value = 0;
        private int figures = 0;
        private int seen = 0;

        /** The FAULT, or NONE. */
        int read(Text text, Setup from) {
            trial.copy(from);
            done = 0;
            stopped = NONE;
            due = LETTER;
            for (int i = 0; i < text.length; i++) {
                int c = text.at(i);
                if (c != ' ' && !takes(c)) {
                    return i;
                }
            }
            return done > 0 && due == LETTER ? NONE : text.length;
        }

        private boolean takes(int c) {
            switch (due) {
                case LETTER:
                    return takesLetter(c);
                case FIGURE:
                    return takesFigure(c - '0');
                default:
                    return takesEnd(c);
            }
        }

        private boolean takesLetter(int c) {
            letter = c;
            value = 0;
            figures = 0;
            seen = 0;
            due = FIGURE;
            return c == 'n' || c == 'm' || c == 'x';
        }

        private boolean takesFigure(int figure) {
            if (!isDue(figure)) {
                return false;
            }
            value = 10 * value + figure;
            seen |= 1 << figure;
            figures++;
            if (figures >= (letter == 'm' ? trial.n : 1)) {
                due = END;
            }
            return true;
        }

        private boolean isDue(int figure) {
            switch (letter) {
                case 'n':
                    return figure >= 1 && figure <= MOST_POINTS;
                case 'm':
                    return figure >= 0 && figure < trial.n && (seen >> figure & 1) == 0;
                default:
                    return figure >= 0 && figure <= 9;
            }
        }

        private boolean takesEnd(int c) {
            if (c != ';') {
                return false;
            }
            if (!obeys() && stopped == NONE) {
                stopped = done;
            }
            done++;
            due = LETTER;
            return true;
        }

        private boolean obeys() {
            switch (letter) {
                case 'n':
                    trial.start(value);
                    return true;
                case 'm':
                    return trial.adds(Move.read(value, trial.n));
                default:
                    return trial.loses(value);
            }
        }
    }
}
