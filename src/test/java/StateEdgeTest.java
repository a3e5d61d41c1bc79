import java.util.ArrayList;
import java.util.List;

/**
 * The edges of STATES, of what is refused and counted, and of digest (Terms 2, promises 19 to 21),
 * one function for each sentence that names one; the sentence stands above it.
 */
public final class StateEdgeTest {
    private static final int NONE = Due.NONE, BAD = Due.BAD, NO = Due.NO, FULL = Due.FULL;
    private static final Due DUE = new Due("StateEdgeTest");

    public static void main(String[] args) {
        eachCallToldSLeavesOne();
        otherCallsLeaveNone();
        alsoIfNothingChanges();
        fiveAtMostOlderLost();
        toGoBackTo();
        backNone();
        backHowManyCanBeYet();
        backTwiceAndOn();
        refusedChangesNothingElse();
        questionsCountToo();
        theFirstOf();
        toldZeroToSix();
        toldItself();
        digestChangesNothing();
        digestOfEachN();
        digestCountsAllRefusals();
        fiveHundredAndTwelveCalls();
        DUE.end();
    }

    /** "each call told S, if it is not refused, leaves one": points, moves, drops, reads */
    private static void eachCallToldSLeavesOne() {
        CarriedSets x = new CarriedSets();
        x.points(3);
        DUE.is("points", x.told(6), 1);
        x.moves(120);
        DUE.is("moves", x.told(6), 2);
        x.drops(0);
        DUE.is("drops", x.told(6), 3);
        Due.retype(x, "n2;m10;");
        DUE.is("type and clear leave none", x.told(6), 3);
        x.reads();
        DUE.is("reads", x.told(6), 4);
        x.points(9);
        x.moves(99);
        x.drops(1);
        DUE.is("refused ones leave none", x.told(6), 4);
    }

    private static void otherCallsLeaveNone() {
        CarriedSets x = Due.with(4, 1230);
        x.order();
        x.of(0, 0);
        x.number(123);
        x.element(0);
        x.image(1, 123);
        x.least(1);
        x.images(1, 0);
        x.carrier(1, 2);
        x.holds(1);
        x.heads(1, 0);
        x.head(1);
        x.type('q');
        x.reads();
        x.clear();
        x.told(0);
        x.digest();
        DUE.is("questions, texts", x.told(6), 2);
        x.back();
        DUE.is("back leaves none", x.told(6), 1);
    }

    /** "also if nothing changes by it" */
    private static void alsoIfNothingChanges() {
        CarriedSets x = new CarriedSets();
        DUE.is("points(5) behind 5", x.points(5), 5);
        DUE.is("a STATE", x.told(6), 1);
        Due.retype(x, "n5;");
        DUE.is("n5;", x.reads(), 1);
        DUE.is("a STATE", x.told(6), 2);
        DUE.is("moves(1234)", x.moves(1234), 0);
        DUE.is("a STATE, though ELEMENTS are the same", x.told(6), 3);
        DUE.is("back", x.back(), 2);
        DUE.is("back", x.back(), 1);
        DUE.is("back", x.back(), 0);
        DUE.is("no more", x.back(), NO);
        DUE.is("N", x.told(4), 5);
    }

    /** "5 at most, older ones lost" */
    private static void fiveAtMostOlderLost() {
        for (int calls = 0; calls <= 8; calls++) {
            CarriedSets x = new CarriedSets();
            for (int n = 1; n <= calls; n++) {
                x.points(n);
                DUE.is("STATES behind " + n, x.told(6), Math.min(n, 5));
            }
            int left = Math.min(calls, 5);
            for (int k = 1; k <= left; k++) {
                DUE.is("back " + k + " of " + calls, x.back(), left - k);
                DUE.is("N there", x.told(4), calls == k ? 5 : calls - k);
            }
            DUE.is("older ones are lost, " + calls, x.back(), NO);
            DUE.is("N stays", x.told(4), calls <= 5 ? 5 : calls - 5);
            DUE.is("STATES", x.told(6), 0);
            DUE.refused("back", x, 0, 1, 0);
        }
    }

    /** "to go back to (N, GENERATORS)": these and nothing else */
    private static void toGoBackTo() {
        CarriedSets x = Due.with(3, 120, 102, 21);
        x.type('n');
        x.told(7);
        x.element(99);
        x.moves(120);
        x.points(8);
        x.type('4');
        DUE.is("back", x.back(), 4);
        int[] want = {1, 1, 1, 2, 3, 3, 4};
        for (int what = 0; what < want.length; what++) {
            DUE.is("told(" + what + ")", x.told(what), want[what]);
        }
        DUE.is("GENERATORS are back, as they came", x.digest(), Due.digestOf(1, 1, 1, 2, 3, 3, 4, 120, 102, 21,
            6, 7, 7, 0, 7, 6, 0, 7, 4, 0, 1, 0, 1, 1, 1, 3, 1, 7));
        x.type(';');
        DUE.is("the text went on", x.reads(), 1);
        DUE.is("N 4", x.told(4), 4);
    }

    /** Promise 19: "NO: none." */
    private static void backNone() {
        CarriedSets x = new CarriedSets();
        DUE.is("back", x.back(), NO);
        DUE.is("back", x.back(), NO);
        DUE.refused("back", x, 0, 2, 0);
        x.points(0);
        Due.retype(x, "n0;");
        x.reads();
        DUE.is("behind a refusal and a FAULT", x.back(), NO);
        x.points(2);
        DUE.is("behind one", x.back(), 0);
        DUE.is("it is used up", x.back(), NO);
        DUE.is("N", x.told(4), 5);
    }

    /** Promise 19: "how many can be yet" */
    private static void backHowManyCanBeYet() {
        CarriedSets x = Due.with(2, 10, 10, 10);
        x.drops(0);
        for (int left = 4; left >= 0; left--) {
            DUE.is("back", x.back(), left);
            DUE.is("told(6)", x.told(6), left);
        }
        DUE.is("N 5 again", x.told(4), 5);
    }

    /** Going back and on again: new STATES stand on those that are left */
    private static void backTwiceAndOn() {
        CarriedSets x = new CarriedSets();
        for (int n = 1; n <= 8; n++) {
            x.points(n);
        }
        x.back();
        x.back();
        DUE.is("N 6", x.told(4), 6);
        DUE.is("3 left", x.told(6), 3);
        x.moves(123450);
        x.moves(543210);
        x.drops(0);
        DUE.is("5 at most", x.told(6), 5);
        DUE.is("order 2", x.order(), 2);
        DUE.is("back", x.back(), 4);
        DUE.is("order 12", x.order(), 12);
        DUE.is("back", x.back(), 3);
        DUE.is("order 6", x.order(), 6);
        DUE.is("back", x.back(), 2);
        DUE.is("order 1", x.order(), 1);
        DUE.is("back", x.back(), 1);
        DUE.is("N 5", x.told(4), 5);
        DUE.is("back", x.back(), 0);
        DUE.is("N 4", x.told(4), 4);
        DUE.is("back", x.back(), NO);
    }

    private static final int SETUPS = 5;

    private static CarriedSets setup(int k) {
        switch (k) {
            case 0:
                return new CarriedSets();
            case 1:
                return Due.retype(Due.with(1, 0, 0, 0), "n8;m76543210;x0;");
            case 2:
                return Due.retype(Due.with(4, 1230, 3210, 123), " ".repeat(77) + "x2;");
            case 3:
                CarriedSets x = Due.retype(Due.with(8, 12345670, 10234567), "x0;m01234567;");
                x.drops(0);
                x.moves(76543210);
                x.moves(1234576);
                x.drops(1);
                return x;
            default:
                return Due.retype(Due.with(6, 123450), "n3;q");
        }
    }

    /** Calls by number, so that each can be done on any object. */
    private static int call(CarriedSets x, int kind, int a, int b) {
        switch (kind) {
            case 0: return x.points(a);
            case 1: return x.moves(a);
            case 2: return x.drops(a);
            case 3: return x.of(a, b);
            case 4: return x.number(a);
            case 5: return x.element(a);
            case 6: return x.image(a, b);
            case 7: return x.least(a);
            case 8: return x.images(a, b);
            case 9: return x.carrier(a, b);
            case 10: return x.holds(a);
            case 11: return x.heads(a, b);
            case 12: return x.head(a);
            case 13: return x.type(a);
            case 14: return x.back();
            default: return x.told(a);
        }
    }

    /** All that can be asked of an object but how often it refused; it is used up by it. */
    private static List<Long> all(CarriedSets x) {
        List<Long> answers = new ArrayList<>();
        for (int what = 3; what <= 6; what++) {
            answers.add((long) x.told(what));
        }
        asked(x, answers);
        answers.add((long) x.reads());
        asked(x, answers);
        answers.add((long) x.type(';'));
        answers.add((long) x.moves(Due.STAY[x.told(4)]));
        for (int k = 0; k < 6; k++) {
            answers.add((long) x.back());
            asked(x, answers);
        }
        return answers;
    }

    private static void asked(CarriedSets x, List<Long> answers) {
        int n = x.told(4);
        answers.add((long) n);
        answers.add((long) x.told(5));
        answers.add((long) x.order());
        answers.add((long) x.element(x.order() - 1));
        answers.add((long) x.element(x.order() / 2));
        for (int p = 0; p < n; p++) {
            answers.add((long) x.of(p, 1));
        }
        answers.add((long) x.heads(n / 2, NONE));
        answers.add((long) x.carrier(1, 1 << n - 1));
    }

    /** "Refused (a question, too), changing nothing but how often" */
    private static void refusedChangesNothingElse() {
        int[] values = {Integer.MIN_VALUE, -1001, -10, -5, -4, -3, -2, -1, 0, 1, 2, 3, 7, 8, 9, 10, 123, 128, 255, 256, 1 << 20,
            76543211, Integer.MAX_VALUE};
        int[] seen = new int[3];
        for (int k = 0; k < SETUPS; k++) {
            List<Long> before = all(setup(k));
            for (int kind = 0; kind <= 15; kind++) {
                for (int a : values) {
                    for (int b : new int[] {-2, -1, 0, 4, 256}) {
                        CarriedSets x = setup(k);
                        int got = call(x, kind, a, b);
                        if (got != BAD && got != NO && got != FULL) {
                            continue;
                        }
                        int counted = BAD - got;
                        seen[counted]++;
                        CarriedSets y = setup(k);
                        String where = "setup " + k + ", call " + kind + "(" + a + ", " + b + ")";
                        for (int what = 0; what <= 2; what++) {
                            DUE.is(where + ": told(" + what + ")", x.told(what) - y.told(what), what == counted ? 1 : 0);
                        }
                        DUE.is(where + ": all else", all(x).equals(before) ? 1 : 0, 1);
                    }
                }
            }
        }
        for (int what = 0; what <= 2; what++) {
            DUE.is("refusals of kind " + what + " were seen", seen[what] > 0 ? 1 : 0, 1);
        }
    }

    /** "Refused (a question, too)": each call that can be, counted once */
    private static void questionsCountToo() {
        CarriedSets x = Due.with(3, 120, 120, 120);
        int[][] bad = {{0, 9}, {1, 9}, {2, 3}, {3, 3, 0}, {4, 9}, {5, -1}, {6, 8, 12}, {7, 8}, {8, 8, 0}, {9, 1, 3}, {10, 8},
            {11, 4, 0}, {12, 8}, {13, 128}, {15, 7}};
        int count = 0;
        for (int[] row : bad) {
            DUE.is("call " + row[0], call(x, row[0], row[1], row.length > 2 ? row[2] : 0), BAD);
            count++;
            DUE.refused("behind call " + row[0], x, count, 0, 0);
        }
        DUE.is("element(3)", x.element(3), NO);
        DUE.refused("behind element", x, count, 1, 0);
        DUE.is("moves(12)", x.moves(12), FULL);
        DUE.refused("behind moves", x, count, 1, 1);
        for (int k = 0; k < 80; k++) {
            x.type(' ');
        }
        DUE.is("type", x.type(' '), FULL);
        DUE.refused("behind type", x, count, 1, 2);
        for (int k = 0; k < 4; k++) {
            x.back();
        }
        DUE.is("back", x.back(), NO);
        DUE.refused("behind back", x, count, 2, 2);
    }

    /** "the first of: BAD -2 a number is not as told; NO -3 as told; FULL -4 as told" */
    private static void theFirstOf() {
        DUE.is("BAD", CarriedSets.BAD, -2);
        DUE.is("NO", CarriedSets.NO, -3);
        DUE.is("FULL", CarriedSets.FULL, -4);
        DUE.is("NONE", CarriedSets.NONE, -1);
        CarriedSets x = Due.with(3, 12, 12, 12);
        DUE.is("moves: no MOVE, and full", x.moves(13), BAD);
        DUE.is("moves: full", x.moves(120), FULL);
        DUE.is("element: below 0", x.element(-1), BAD);
        DUE.is("element: not so many", x.element(1), NO);
        Due.retype(x, " ".repeat(80));
        DUE.is("type: no byte, and full", x.type(128), BAD);
        DUE.is("type: full", x.type(32), FULL);
        DUE.refused("the first alone counts", x, 3, 1, 2);
    }

    /** Promise 20: "BAD (0), NO (1), FULL (2); bytes (3), N (4), GENERATORS (5), STATES (6). BAD." */
    private static void toldZeroToSix() {
        CarriedSets x = new CarriedSets();
        DUE.is("told(-1)", x.told(-1), BAD);
        DUE.is("told(7)", x.told(7), BAD);
        for (int what : Due.FAR) {
            DUE.is("told(" + what + ")", x.told(what), BAD);
        }
        DUE.is("told(0)", x.told(0), 2 + Due.FAR.length);
        x.points(7);
        x.moves(123456);
        x.moves(1234560);
        x.moves(1234560);
        x.drops(1);
        Due.retype(x, "nmx");
        x.element(7);
        x.element(8);
        x.element(9);
        x.moves(6543210);
        x.moves(6543210);
        int[] want = {2 + Due.FAR.length, 3, 1, 3, 7, 3, 5};
        for (int what = 0; what < want.length; what++) {
            DUE.is("told(" + what + ")", x.told(what), want[what]);
        }
    }

    /** A refused told counts, but not in its own answer */
    private static void toldItself() {
        CarriedSets x = new CarriedSets();
        for (int k = 0; k < 5; k++) {
            DUE.is("told(0)", x.told(0), k);
            DUE.is("told(7)", x.told(7), BAD);
        }
        DUE.is("told(0)", x.told(0), 5);
    }

    /** Promise 21 asks; asking changes nothing */
    private static void digestChangesNothing() {
        for (int k = 0; k < SETUPS; k++) {
            CarriedSets x = setup(k);
            long first = x.digest();
            DUE.is("the same again, setup " + k, x.digest(), first);
            DUE.is("all else, setup " + k, all(x).equals(all(setup(k))) ? 1 : 0, 1);
            CarriedSets y = setup(k);
            int n = y.told(4);
            y.points(n % 8 + 1);
            y.moves(Due.TURN[n % 8 + 1]);
            y.digest();
            y.back();
            y.back();
            DUE.is("GENERATORS are back", y.order(), setup(k).order());
        }
    }

    /** Promise 21, the empty and the full case of each N: no GENERATORS and all MOVES */
    private static void digestOfEachN() {
        for (int n = 1; n <= 8; n++) {
            List<Integer> none = new ArrayList<>(List.of(0, 0, 0, 0, n, 0, 1, 1));
            for (int p = 0; p < n; p++) {
                none.addAll(List.of(1 << p, 1 << p, p));
            }
            Model model = new Model();
            model.points(n);
            for (int size = 0; size <= n; size++) {
                none.add(model.headsOf(size).size());
                none.addAll(model.headsOf(size));
            }
            DUE.is("none, N " + n, Due.with(n).digest(), Due.digestOf(none.stream().mapToInt(v -> v).toArray()));
            int swap = n == 1 ? 0 : Due.STAY[n] + 9 * (int) Math.pow(10, n - 2);
            CarriedSets x = Due.with(n, Due.NEXT[n], swap);
            List<Integer> all = new ArrayList<>(List.of(0, 0, 0, 0, n, 2, 3, Due.NEXT[n], swap, x.order()));
            for (int p = 0; p < n; p++) {
                all.addAll(List.of((1 << n) - 1, (1 << n) - (1 << p), 0));
            }
            for (int size = 0; size <= n; size++) {
                all.addAll(List.of(1, (1 << size) - 1));
            }
            DUE.is("all, N " + n, x.digest(), Due.digestOf(all.stream().mapToInt(v -> v).toArray()));
        }
    }

    /** Promise 21: "told(0) to told(6)" */
    private static void digestCountsAllRefusals() {
        CarriedSets x = Due.with(1, 0, 0, 0);
        x.told(7);
        x.told(8);
        x.told(9);
        x.element(1);
        x.element(2);
        x.moves(0);
        x.type(1);
        x.type(2);
        x.type(3);
        x.type(4);
        x.back();
        DUE.is("each in its place", x.digest(), Due.digestOf(3, 2, 1, 4, 1, 2, 3, 0, 0, 1, 1, 1, 0, 1, 0, 1, 1));
    }

    /** "An object is used for at most 512 calls": the 512th is still answered as told */
    private static void fiveHundredAndTwelveCalls() {
        CarriedSets x = new CarriedSets();
        for (int k = 0; k < 511; k++) {
            x.told(7);
        }
        DUE.is("511 refusals", x.told(0), 511);
        CarriedSets y = new CarriedSets();
        for (int k = 0; k < 255; k++) {
            DUE.is("points, call " + 2 * k, y.points(k % 8 + 1), k == 0 ? 5 : (k - 1) % 8 + 1);
            DUE.is("moves, call " + (2 * k + 1), y.moves(Due.TURN[k % 8 + 1]), 0);
        }
        DUE.is("STATES", y.told(6), 5);
        DUE.is("back", y.back(), 4);
    }
}
