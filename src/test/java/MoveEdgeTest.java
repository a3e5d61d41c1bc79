/**
 * The edges of POINTS, MOVES, GENERATORS and ELEMENTS (Terms 1, promises 1 to 8), one function for
 * each sentence that names one; the sentence stands above it.
 */
public final class MoveEdgeTest {
    private static final int NONE = Due.NONE, BAD = Due.BAD, NO = Due.NO, FULL = Due.FULL;
    private static final Due DUE = new Due("MoveEdgeTest");

    public static void main(String[] args) {
        fiveAtFirst();
        noGeneratorsAtFirst();
        pointsOneToEight();
        pointsTellWhatItWas();
        pointsLeaveNoGenerators();
        pointsZeroToNLessOne();
        numbersOfMovesAllOfFewPoints();
        numbersOfMovesLeastAndGreatest();
        numbersOfMovesSpoiled();
        zeroAtTheFront();
        generatorsZeroToTwo();
        fullAtThree();
        sameGeneratorTwice();
        dropsOnlyThoseThere();
        thoseBehindComeNearer();
        productsNoneToAll();
        oneThatLeavesAllIsThere();
        orbitAndChainEdges();
        ofWhatZeroToTwo();
        numberFirstAndLast();
        elementFirstAndLast();
        elementBadAheadOfNo();
        DUE.end();
    }

    /** "5 at first" */
    private static void fiveAtFirst() {
        CarriedSets x = new CarriedSets();
        DUE.is("5 at first: told(4)", x.told(4), 5);
        DUE.is("5 at first: of(4, 0)", x.of(4, 0), 16);
        DUE.is("5 at first: of(5, 0)", x.of(5, 0), BAD);
        DUE.is("5 at first: least(31)", x.least(31), 31);
        DUE.is("5 at first: least(32)", x.least(32), BAD);
        DUE.is("5 at first: points(8)", x.points(8), 5);
    }

    /** Promise 1: "As told; no GENERATORS." */
    private static void noGeneratorsAtFirst() {
        CarriedSets x = new CarriedSets();
        int[] want = {0, 0, 0, 0, 5, 0, 0};
        for (int what = 0; what < want.length; what++) {
            DUE.is("a new object: told(" + what + ")", x.told(what), want[what]);
        }
        DUE.is("a new object: drops(0)", x.drops(0), BAD);
        DUE.is("a new object: order", new CarriedSets().order(), 1);
        DUE.is("a new object: clear", new CarriedSets().clear(), 0);
        DUE.is("a new object: back", new CarriedSets().back(), NO);
        CarriedSets other = new CarriedSets();
        x.points(8);
        x.moves(76543210);
        x.type(32);
        DUE.is("objects do not share N", other.told(4), 5);
        DUE.is("objects do not share the text", other.told(3), 0);
        DUE.is("objects do not share ELEMENTS", other.order(), 1);
    }

    /** "N POINTS (1 .. 8" */
    private static void pointsOneToEight() {
        for (int n = -2; n <= 11; n++) {
            CarriedSets x = new CarriedSets();
            boolean taken = n >= 1 && n <= 8;
            DUE.is("points(" + n + ")", x.points(n), taken ? 5 : BAD);
            DUE.is("points(" + n + "): N", x.told(4), taken ? n : 5);
            DUE.is("points(" + n + "): states", x.told(6), taken ? 1 : 0);
            DUE.refused("points(" + n + ")", x, taken ? 0 : 1, 0, 0);
        }
        for (int n : Due.FAR) {
            DUE.is("points(" + n + ")", new CarriedSets().points(n), BAD);
        }
    }

    /** Promise 2: "what it was" */
    private static void pointsTellWhatItWas() {
        CarriedSets x = new CarriedSets();
        int before = 5;
        for (int n : new int[] {1, 8, 1, 2, 2, 3, 4, 5, 6, 7, 8, 8}) {
            DUE.is("points(" + n + ") behind " + before, x.points(n), before);
            DUE.is("points(0) behind " + n, x.points(0), BAD);
            DUE.is("points(9) behind " + n, x.points(9), BAD);
            before = n;
        }
        x.back();
        x.back();
        DUE.is("points behind back", x.points(3), 7);
    }

    /** Promise 2: "no GENERATORS", even if N stays what it was */
    private static void pointsLeaveNoGenerators() {
        for (int n = 1; n <= 8; n++) {
            CarriedSets x = Due.with(n, Due.NEXT[n], Due.TURN[n], Due.STAY[n]);
            DUE.is("three are there, N " + n, x.told(5), 3);
            DUE.is("points(0) leaves them, N " + n, x.points(0) + x.told(5), BAD + 3);
            DUE.is("points(9) leaves them, N " + n, x.points(9) + x.told(5), BAD + 3);
            DUE.is("points, N " + n, x.points(n), n);
            DUE.is("none are there, N " + n, x.told(5), 0);
            DUE.is("order, N " + n, x.order(), 1);
            DUE.is("the next one's number, N " + n, x.moves(Due.TURN[n]), 0);
        }
    }

    /** "0 .. N less 1" */
    private static void pointsZeroToNLessOne() {
        for (int n = 1; n <= 8; n++) {
            CarriedSets x = Due.with(n);
            for (int what = 0; what <= 2; what++) {
                for (int p = 0; p < n; p++) {
                    DUE.is("of(" + p + ", " + what + "), N " + n, x.of(p, what), what == 2 ? p : 1 << p);
                }
                DUE.is("of(-1, " + what + "), N " + n, x.of(-1, what), BAD);
                DUE.is("of(N, " + what + "), N " + n, x.of(n, what), BAD);
                DUE.is("of(8, " + what + "), N " + n, x.of(8, what), BAD);
                for (int p : Due.FAR) {
                    DUE.is("of(" + p + ", " + what + "), N " + n, x.of(p, what), BAD);
                }
            }
            DUE.refused("of, N " + n, x, 3 * (3 + Due.FAR.length), 0, 0);
        }
    }

    /** "to each POINT p a POINT p' (no two the same), told by a number with N figures" */
    private static void numbersOfMovesAllOfFewPoints() {
        int[] waysToMove = {1, 1, 2, 6, 24, 120};
        for (int n = 1; n <= 5; n++) {
            int taken = 0;
            int refused = 0;
            CarriedSets x = Due.with(n);
            int end = (int) Math.pow(10, n) + 50000;
            for (int code = -200; code < end; code++) {
                x = code % 256 == 0 ? Due.with(n) : x;
                int got = x.image(1, code);
                boolean isMove = Model.figures(code, n) != null;
                taken += isMove && got >= 0 ? 1 : 0;
                refused += !isMove && got == BAD ? 1 : 0;
            }
            DUE.is("how many numbers are MOVES, N " + n, taken, waysToMove[n]);
            DUE.is("how many are none, N " + n, refused, end + 200 - waysToMove[n]);
        }
    }

    /** The least and the greatest number of a MOVE, and those beside them, where a MOVE is asked for */
    private static void numbersOfMovesLeastAndGreatest() {
        for (int n = 1; n <= 8; n++) {
            int low = Due.STAY[n];
            int high = Due.TURN[n];
            takesMove(n, low, true);
            takesMove(n, high, true);
            takesMove(n, low - 1, false);
            takesMove(n, high + 1, false);
            takesMove(n, low + 1, false);
            takesMove(n, high - 1, false);
            takesMove(n, -low - 1, false);
            takesMove(n, -high - 1, false);
            for (int code : Due.FAR) {
                takesMove(n, code, false);
            }
        }
    }

    private static void takesMove(int n, int code, boolean taken) {
        String where = "(" + code + "), N " + n;
        CarriedSets x = Due.with(n);
        DUE.is("moves" + where, x.moves(code), taken ? 0 : BAD);
        DUE.is("GENERATORS behind moves" + where, x.told(5), taken ? 1 : 0);
        DUE.is("STATES behind moves" + where, x.told(6), taken ? 2 : 1);
        CarriedSets y = Due.with(n, Due.TURN[n]);
        int number = code == Due.STAY[n] ? 0 : 1;
        DUE.is("number" + where, y.number(code), taken ? number : BAD);
        DUE.is("image of none by" + where, y.image(0, code), taken ? 0 : BAD);
        DUE.is("image of all by" + where, y.image((1 << n) - 1, code), taken ? (1 << n) - 1 : BAD);
        DUE.refused("number, image" + where, y, taken ? 0 : 3, 0, 0);
    }

    /** A figure too few, a figure too many, a figure that is no POINT, a figure twice, a sign ahead */
    private static void numbersOfMovesSpoiled() {
        for (int n = 2; n <= 8; n++) {
            int turn = Due.TURN[n];
            takesMove(n, Due.STAY[n] / 10, false);
            takesMove(n, 10 * turn, false);
            takesMove(n, turn + 1, false);
            takesMove(n, -turn, false);
            takesMove(n, -Due.STAY[n], false);
            int front = (int) Math.pow(10, n - 1);
            takesMove(n, turn + front, false);
            takesMove(n, turn - front, false);
            takesMove(n, turn + 10 * front, false);
            takesMove(n, n < 8 ? Due.TURN[n + 1] : 876543210, false);
            takesMove(n, Due.TURN[n - 1], false);
        }
        takesMove(1, 1, false);
        takesMove(1, 9, false);
        takesMove(1, 10, false);
        takesMove(1, -10, false);
    }

    /** "0 at the front, too: with N 4 1032 tells 1, 0, 3, 2; 0123 is told 123" */
    private static void zeroAtTheFront() {
        CarriedSets x = Due.with(4);
        DUE.is("1032: 0 to 1", x.image(1, 1032), 2);
        DUE.is("1032: 1 to 0", x.image(2, 1032), 1);
        DUE.is("1032: 2 to 3", x.image(4, 1032), 8);
        DUE.is("1032: 3 to 2", x.image(8, 1032), 4);
        DUE.is("123: 3 stays", x.image(8, 123), 8);
        DUE.is("123 as an ELEMENT", x.element(0), 123);
        DUE.is("moves(132)", x.moves(132), 0);
        DUE.is("132 as an ELEMENT", x.element(1), 132);
        DUE.is("a second 0 at the front is none", x.moves(12), BAD);
        DUE.is("digest tells it 132", x.digest(), Due.digestOf(1, 0, 0, 0, 4, 1, 2, 132, 2, 1, 1, 0, 2, 2, 1, 12, 12, 2, 12, 8, 2,
            1, 0, 3, 1, 2, 4, 4, 3, 5, 6, 12, 3, 7, 13, 14, 1, 15));
    }

    /** "GENERATORS 0 .. 2, as they come"; promise 3: "its number" */
    private static void generatorsZeroToTwo() {
        CarriedSets x = Due.with(2);
        DUE.is("the first", x.moves(10), 0);
        DUE.is("the second", x.moves(1), 1);
        DUE.is("the third", x.moves(10), 2);
        DUE.is("as they come", x.digest(), Due.digestOf(0, 0, 0, 0, 2, 3, 4, 10, 1, 10, 2, 3, 3, 0, 3, 2, 0, 1, 0, 1, 1, 1, 3));
        DUE.is("the first goes", x.drops(0), 2);
        DUE.is("the next comes behind", x.moves(1), 2);
        DUE.is("as they are now", x.digest(), Due.digestOf(0, 0, 0, 0, 2, 3, 5, 1, 10, 1, 2, 3, 3, 0, 3, 2, 0, 1, 0, 1, 1, 1, 3));
    }

    /** Promise 3: "BAD; FULL: 3" */
    private static void fullAtThree() {
        for (int n = 1; n <= 8; n++) {
            CarriedSets x = Due.with(n, Due.STAY[n], Due.STAY[n]);
            DUE.is("two leave room, N " + n, x.moves(Due.STAY[n]), 2);
            DUE.is("three do not, N " + n, x.moves(Due.NEXT[n]), FULL);
            DUE.is("nor for one that is there, N " + n, x.moves(Due.STAY[n]), FULL);
            DUE.is("BAD is ahead, N " + n, x.moves(-1), BAD);
            DUE.is("still three, N " + n, x.told(5), 3);
            DUE.is("still order 1, N " + n, x.order(), 1);
            DUE.is("no STATE, N " + n, x.told(6), 4);
            DUE.refused("N " + n, x, 1, 0, 2);
            DUE.is("one goes, N " + n, x.drops(2), 2);
            DUE.is("room again, N " + n, x.moves(Due.NEXT[n]), 2);
            DUE.is("order N, N " + n, x.order(), n);
        }
    }

    /** A GENERATOR that is there, or that leaves all, is one more GENERATOR */
    private static void sameGeneratorTwice() {
        CarriedSets x = Due.with(3, 120, 120, 12);
        DUE.is("three of them", x.told(5), 3);
        DUE.is("order", x.order(), 3);
        DUE.is("the first goes", x.drops(0), 2);
        DUE.is("order is still 3", x.order(), 3);
        DUE.is("the other goes", x.drops(0), 1);
        DUE.is("order is 1", x.order(), 1);
    }

    /** Promise 4: "BAD" */
    private static void dropsOnlyThoseThere() {
        for (int count = 0; count <= 3; count++) {
            for (int i = -2; i <= 5; i++) {
                CarriedSets x = Due.with(3);
                for (int k = 0; k < count; k++) {
                    x.moves(120);
                }
                boolean taken = i >= 0 && i < count;
                String where = "drops(" + i + ") of " + count;
                DUE.is(where, x.drops(i), taken ? count - 1 : BAD);
                DUE.is(where + ": GENERATORS", x.told(5), taken ? count - 1 : count);
                DUE.is(where + ": STATES", x.told(6), taken ? count + 2 : count + 1);
                DUE.is(where + ": told(0)", x.told(0), taken ? 0 : 1);
            }
            CarriedSets x = Due.with(3, 120, 120, 120);
            for (int i : Due.FAR) {
                DUE.is("drops(" + i + ")", x.drops(i), BAD);
            }
        }
    }

    /** Promise 4: "those behind it are one nearer" */
    private static void thoseBehindComeNearer() {
        int[][] left = {{210, 21}, {102, 21}, {102, 210}};
        for (int i = 0; i <= 2; i++) {
            CarriedSets x = Due.with(3, 102, 210, 21);
            DUE.is("drops(" + i + ")", x.drops(i), 2);
            int[] rest = {6, 7, 7, 0, 7, 6, 0, 7, 4, 0, 1, 0, 1, 1, 1, 3, 1, 7};
            int[] values = {0, 0, 0, 0, 3, 2, 5, left[i][0], left[i][1]};
            int[] all = java.util.Arrays.copyOf(values, values.length + rest.length);
            System.arraycopy(rest, 0, all, values.length, rest.length);
            DUE.is("left behind drops(" + i + ")", x.digest(), Due.digestOf(all));
            DUE.is("drops(1)", x.drops(1), 1);
            DUE.is("the one left", x.number(left[i][0]), 1);
            DUE.is("the one gone", x.number(left[i][1]), NONE);
        }
    }

    /** "products of GENERATORS, one after the other, any number of them": from none to all MOVES */
    private static void productsNoneToAll() {
        int all = 1;
        for (int n = 1; n <= 8; n++) {
            all *= n;
            int swap = n == 1 ? 0 : Due.STAY[n] + 9 * (int) Math.pow(10, n - 2);
            CarriedSets x = Due.with(n, Due.NEXT[n], swap);
            DUE.is("all MOVES, N " + n, x.order(), all);
            DUE.is("the last one, N " + n, x.element(all - 1), Due.TURN[n]);
            DUE.is("none more, N " + n, x.element(all), NO);
            DUE.is("a cycle, N " + n, Due.with(n, Due.NEXT[n]).order(), n);
            DUE.is("its own undoing, N " + n, Due.with(n, Due.TURN[n]).order(), n == 1 ? 1 : 2);
            DUE.is("turned and moved on, N " + n, Due.with(n, Due.NEXT[n], Due.TURN[n]).order(), n <= 2 ? n : 2 * n);
        }
    }

    /** "(the one that leaves all, too)" */
    private static void oneThatLeavesAllIsThere() {
        for (int n = 1; n <= 8; n++) {
            for (CarriedSets x : new CarriedSets[] {Due.with(n), Due.with(n, Due.STAY[n]), Due.with(n, Due.NEXT[n])}) {
                DUE.is("its number, N " + n, x.number(Due.STAY[n]), 0);
                DUE.is("the first ELEMENT, N " + n, x.element(0), Due.STAY[n]);
            }
            DUE.is("it alone, N " + n, Due.with(n).order(), 1);
            DUE.is("it alone told, N " + n, Due.with(n, Due.STAY[n]).order(), 1);
        }
    }

    /** CHAIN of 0: no POINT is less, so it is the ORBIT; of the last one: all others are left */
    private static void orbitAndChainEdges() {
        for (int n = 1; n <= 8; n++) {
            int all = (1 << n) - 1;
            int swap = n == 1 ? 0 : Due.STAY[n] + 9 * (int) Math.pow(10, n - 2);
            CarriedSets full = Due.with(n, Due.NEXT[n], swap);
            CarriedSets cycle = Due.with(n, Due.NEXT[n]);
            CarriedSets none = Due.with(n);
            for (int p = 0; p < n; p++) {
                DUE.is("ORBIT of " + p + " by all, N " + n, full.of(p, 0), all);
                DUE.is("CHAIN of " + p + " by all, N " + n, full.of(p, 1), all & -1 << p);
                DUE.is("least of " + p + " by all, N " + n, full.of(p, 2), 0);
                DUE.is("ORBIT of " + p + " by a cycle, N " + n, cycle.of(p, 0), all);
                DUE.is("CHAIN of " + p + " by a cycle, N " + n, cycle.of(p, 1), p == 0 ? all : 1 << p);
                DUE.is("ORBIT of " + p + " by none, N " + n, none.of(p, 0), 1 << p);
                DUE.is("CHAIN of " + p + " by none, N " + n, none.of(p, 1), 1 << p);
                DUE.is("least of " + p + " by none, N " + n, none.of(p, 2), p);
            }
        }
        DUE.is("ORBIT of 4 in a swap of 3 and 4", Due.with(8, 12043567).of(4, 0), 24);
        DUE.is("CHAIN of 3 beside a cycle of 0, 1, 2", Due.with(8, 12043567).of(3, 1), 24);
        DUE.is("ORBIT of the last in a swap of first and last", Due.with(8, 71234560).of(7, 0), 129);
        DUE.is("CHAIN of the first there", Due.with(8, 71234560).of(0, 1), 129);
        DUE.is("CHAIN of the last there", Due.with(8, 71234560).of(7, 1), 128);
        DUE.is("least of the last there", Due.with(8, 71234560).of(7, 2), 0);
    }

    /** Promise 6: "ORBIT (what 0, bits), CHAIN (1, bits), the least POINT of its ORBIT (2)" */
    private static void ofWhatZeroToTwo() {
        CarriedSets x = Due.with(4, 1032, 3210);
        DUE.is("of(3, 0)", x.of(3, 0), 15);
        DUE.is("of(3, 1)", x.of(3, 1), 8);
        DUE.is("of(3, 2)", x.of(3, 2), 0);
        DUE.is("of(3, -1)", x.of(3, -1), BAD);
        DUE.is("of(3, 3)", x.of(3, 3), BAD);
        for (int what : Due.FAR) {
            DUE.is("of(3, " + what + ")", x.of(3, what), BAD);
        }
        DUE.is("both wrong, counted once", x.of(4, 3), BAD);
        DUE.refused("of", x, 3 + Due.FAR.length, 0, 0);
    }

    /** Promise 7: "The number (0 on) of a MOVE among ELEMENTS; NONE: it is none. BAD: no MOVE." */
    private static void numberFirstAndLast() {
        CarriedSets x = Due.with(8, 12345670, 10234567);
        DUE.is("the first", x.number(1234567), 0);
        DUE.is("the second", x.number(1234576), 1);
        DUE.is("the last but one", x.number(76543201), 40318);
        DUE.is("the last", x.number(76543210), 40319);
        DUE.is("behind the last", x.number(76543211), BAD);
        CarriedSets none = Due.with(8);
        DUE.is("by none, it stays", none.number(1234567), 0);
        DUE.is("by none, the next", none.number(1234576), NONE);
        DUE.is("by none, the last", none.number(76543210), NONE);
        DUE.is("by none, no MOVE", none.number(76543200), BAD);
        DUE.refused("NONE does not count", none, 1, 0, 0);
        CarriedSets y = Due.with(4, 1230);
        DUE.is("moves(1032) comes", y.number(1032) * 10 + y.moves(1032), 10 * NONE + 1);
        DUE.is("then it is one", y.number(1032) >= 0 ? 1 : 0, 1);
        y.back();
        DUE.is("then it is none again", y.number(1032), NONE);
    }

    /** Promise 8: "The n-th ELEMENT (0 on), as a MOVE. .. NO: not so many." */
    private static void elementFirstAndLast() {
        CarriedSets x = Due.with(3, 120);
        DUE.is("element(0)", x.element(0), 12);
        DUE.is("element(2)", x.element(2), 201);
        DUE.is("element(3)", x.element(3), NO);
        DUE.is("element(greatest)", x.element(Integer.MAX_VALUE), NO);
        DUE.refused("element", x, 0, 2, 0);
        for (int n = 1; n <= 8; n++) {
            CarriedSets none = Due.with(n);
            DUE.is("element(0) by none, N " + n, none.element(0), Due.STAY[n]);
            DUE.is("element(1) by none, N " + n, none.element(1), NO);
        }
    }

    /** Promise 8: "BAD: n below 0; NO: not so many" */
    private static void elementBadAheadOfNo() {
        CarriedSets x = new CarriedSets();
        DUE.is("element(-1)", x.element(-1), BAD);
        DUE.is("element(least)", x.element(Integer.MIN_VALUE), BAD);
        DUE.is("element(1)", x.element(1), NO);
        DUE.refused("element", x, 2, 1, 0);
        DUE.is("no STATE", x.told(6), 0);
    }
}
