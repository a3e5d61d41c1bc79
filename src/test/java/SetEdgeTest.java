import java.util.ArrayList;
import java.util.List;

/**
 * The edges of SETS, IMAGES, CARRIER, HOLD and HEADS (Terms 2, promises 9 to 15), one function for
 * each sentence that names one; the sentence stands above it.
 */
public final class SetEdgeTest {
    private static final int NONE = Due.NONE, BAD = Due.BAD, NOT_SO_MANY = Due.NOT_SO_MANY;
    private static final Due DUE = new Due("SetEdgeTest");

    public static void main(String[] args) {
        bitsBeyondPoints();
        orderOfSets();
        emptySet();
        fullSet();
        imageByAnyMove();
        imageBothWrong();
        leastIsTheFirst();
        imagesHowManyAndTheLast();
        imagesBelowMinusOne();
        imagesEachOnce();
        carrierToItself();
        carrierNone();
        carrierUnlikeSizes();
        carrierLeastNumber();
        holdsOneToAll();
        headsSizesZeroToN();
        headsHowManyAndTheLast();
        headsBelowMinusOne();
        headFirstAndLast();
        answersThatDoNotCount();
        DUE.end();
    }

    private static CarriedSets allMoves(int n) {
        return Due.with(n, Due.NEXT[n], n == 1 ? 0 : Due.STAY[n] + 9 * (int) Math.pow(10, n - 2));
    }

    /** Promise 9: "BAD: bits beyond POINTS, too (likewise below)" */
    private static void bitsBeyondPoints() {
        for (int n = 1; n <= 8; n++) {
            int all = (1 << n) - 1;
            takesSet(n, 0, true);
            takesSet(n, 1, true);
            takesSet(n, all, true);
            takesSet(n, all + 1, false);
            takesSet(n, all + 2, false);
            takesSet(n, 1 << 8, false);
            takesSet(n, 1 << 30, false);
            takesSet(n, -1, false);
            takesSet(n, -2, false);
            takesSet(n, ~all, false);
            for (int set : Due.FAR) {
                takesSet(n, set, false);
            }
        }
    }

    private static void takesSet(int n, int set, boolean taken) {
        CarriedSets x = Due.with(n);
        String where = "(" + set + "), N " + n;
        DUE.is("image" + where, x.image(set, Due.STAY[n]), taken ? set : BAD);
        DUE.is("least" + where, x.least(set), taken ? set : BAD);
        DUE.is("images, how many" + where, x.images(set, NONE), taken ? 1 : BAD);
        DUE.is("images, the first" + where, x.images(set, 0), taken ? set : BAD);
        DUE.is("images, the second" + where, x.images(set, 1), taken ? NOT_SO_MANY : BAD);
        DUE.is("carrier" + where, x.carrier(set, set), taken ? Due.STAY[n] : BAD);
        DUE.is("carrier from none" + where, x.carrier(0, set), taken && set == 0 ? Due.STAY[n] : BAD);
        DUE.is("carrier to none" + where, x.carrier(set, 0), taken && set == 0 ? Due.STAY[n] : BAD);
        DUE.is("holds" + where, x.holds(set), taken ? 1 : BAD);
        DUE.is("head" + where, x.head(set), taken ? 0 : BAD);
        DUE.refused("SETS" + where, x, !taken ? 10 : set == 0 ? 0 : 2, 0, 0);
        DUE.is("a question leaves no STATE" + where, x.told(6), 1);
    }

    /** "Of two SETS of like size that one is ahead that has the least POINT that is in just one of them." */
    private static void orderOfSets() {
        for (int n = 1; n <= 8; n++) {
            for (int size = 0; size <= n; size++) {
                List<Integer> sets = new ArrayList<>();
                for (int set = 0; set < 1 << n; set++) {
                    if (Integer.bitCount(set) == size) {
                        sets.add(set);
                    }
                }
                sets.sort(SetEdgeTest::ahead);
                CarriedSets none = Due.with(n);
                CarriedSets all = allMoves(n);
                DUE.is("HEADS by none, N " + n + ", size " + size, none.heads(size, NONE), sets.size());
                DUE.is("IMAGES by all, N " + n + ", size " + size, all.images((1 << size) - 1, NONE), sets.size());
                for (int i = 0; i < sets.size(); i++) {
                    DUE.is("the " + i + "-th, N " + n, none.heads(size, i), sets.get(i));
                    DUE.is("its number, N " + n, none.head(sets.get(i)), i);
                    DUE.is("the " + i + "-th IMAGE, N " + n, all.images(sets.get(sets.size() - 1), i), sets.get(i));
                }
            }
        }
        CarriedSets x = Due.with(8, 10734562);
        DUE.is("{0, 7} is ahead of {1, 2}", x.least(6), 129);
        DUE.is("{1, 2} comes behind it", x.images(129, 1), 6);
    }

    private static int ahead(int a, int b) {
        int least = Integer.lowestOneBit(a ^ b);
        return least == 0 ? 0 : (a & least) != 0 ? -1 : 1;
    }

    /** The empty SET: one of its size, its own IMAGE by all */
    private static void emptySet() {
        for (int n = 1; n <= 8; n++) {
            CarriedSets x = allMoves(n);
            DUE.is("image of none, N " + n, x.image(0, Due.TURN[n]), 0);
            alone(x, n, 0);
        }
    }

    /** The full SET, likewise */
    private static void fullSet() {
        for (int n = 1; n <= 8; n++) {
            CarriedSets x = allMoves(n);
            int all = (1 << n) - 1;
            DUE.is("image of all, N " + n, x.image(all, Due.TURN[n]), all);
            alone(x, n, all);
        }
    }

    private static void alone(CarriedSets x, int n, int set) {
        String where = ", set " + set + ", N " + n;
        int size = Integer.bitCount(set);
        DUE.is("least" + where, x.least(set), set);
        DUE.is("how many images" + where, x.images(set, NONE), 1);
        DUE.is("the first" + where, x.images(set, 0), set);
        DUE.is("the second" + where, x.images(set, 1), NOT_SO_MANY);
        DUE.is("carrier" + where, x.carrier(set, set), Due.STAY[n]);
        DUE.is("holds" + where, x.holds(set), x.order());
        DUE.is("how many heads" + where, x.heads(size, NONE), 1);
        DUE.is("the first head" + where, x.heads(size, 0), set);
        DUE.is("the second head" + where, x.heads(size, 1), NOT_SO_MANY);
        DUE.is("head" + where, x.head(set), 0);
    }

    /** Promise 9: "(of ELEMENTS or not)" */
    private static void imageByAnyMove() {
        CarriedSets none = Due.with(8);
        DUE.is("no ELEMENT", none.number(76543210), NONE);
        DUE.is("by it", none.image(1, 76543210), 128);
        DUE.is("by it, too", none.image(128 | 64 | 1, 76543210), 1 | 2 | 128);
        CarriedSets x = Due.with(8, 76543210);
        DUE.is("an ELEMENT", x.number(76543210), 1);
        DUE.is("by it", x.image(128 | 64 | 1, 76543210), 1 | 2 | 128);
        DUE.is("p', not what moves there", x.image(1, 12345670), 2);
        DUE.is("the last to the first", x.image(128, 12345670), 1);
        DUE.refused("image", x, 0, 0, 0);
    }

    /** A call with two wrong numbers is refused once */
    private static void imageBothWrong() {
        CarriedSets x = Due.with(4, 1230);
        DUE.is("image(16, 0)", x.image(16, 0), BAD);
        DUE.is("image(-1, -1)", x.image(-1, -1), BAD);
        DUE.is("image(15, 0)", x.image(15, 0), BAD);
        DUE.is("image(16, 123)", x.image(16, 123), BAD);
        DUE.is("images(16, -2)", x.images(16, -2), BAD);
        DUE.is("carrier(16, 17)", x.carrier(16, 17), BAD);
        DUE.is("heads(5, -2)", x.heads(5, -2), BAD);
        DUE.refused("both wrong", x, 7, 0, 0);
    }

    /** "LEAST: the first" */
    private static void leastIsTheFirst() {
        for (int n = 1; n <= 8; n++) {
            for (int code : new int[] {Due.STAY[n], Due.NEXT[n], Due.TURN[n]}) {
                CarriedSets x = Due.with(n, code);
                for (int set = 0; set < 1 << n; set++) {
                    x = set % 64 == 63 ? Due.with(n, code) : x;
                    DUE.is("least(" + set + ") by " + code, x.least(set), x.images(set, 0));
                    DUE.is("head of " + set + " by " + code, x.heads(Integer.bitCount(set), x.head(set)), x.images(set, 0));
                }
            }
        }
        // 0 and 3 are ahead of 1 and 2, though the number 9 is greater than 6
        DUE.is("not by numbers", Due.with(4, 1032).least(6), 9);
        DUE.is("its first image", Due.with(4, 1032).images(6, 0), 9);
        DUE.is("its second image", Due.with(4, 1032).images(6, 1), 6);
    }

    /** Promise 11: "how many (i NONE), the i-th; -5: not so many" */
    private static void imagesHowManyAndTheLast() {
        for (int n = 2; n <= 8; n++) {
            CarriedSets x = Due.with(n, Due.NEXT[n]);
            int last = 1 << n - 1;
            DUE.is("how many, N " + n, x.images(1, NONE), n);
            DUE.is("the first, N " + n, x.images(last, 0), 1);
            DUE.is("the last, N " + n, x.images(1, n - 1), last);
            DUE.is("behind the last, N " + n, x.images(1, n), NOT_SO_MANY);
            DUE.is("far behind, N " + n, x.images(1, Integer.MAX_VALUE), NOT_SO_MANY);
        }
        CarriedSets all = allMoves(8);
        DUE.is("the most there are", all.images(15, NONE), 70);
        DUE.is("the last of 70", all.images(15, 69), 240);
        DUE.is("the 71st", all.images(15, 70), NOT_SO_MANY);
    }

    /** Promise 11: "BAD: i below -1, too" */
    private static void imagesBelowMinusOne() {
        CarriedSets x = Due.with(8, 12345670);
        DUE.is("i -1", x.images(1, -1), 8);
        DUE.is("i -2", x.images(1, -2), BAD);
        DUE.is("i least", x.images(1, Integer.MIN_VALUE), BAD);
        DUE.is("a wrong SET with i -1", x.images(256, -1), BAD);
        DUE.is("a wrong SET with i too large", x.images(256, 999), BAD);
        DUE.refused("images", x, 4, 0, 0);
    }

    /** "IMAGES of a SET: those by all ELEMENTS, each once, in that order" */
    private static void imagesEachOnce() {
        CarriedSets x = Due.with(6, 123450, 543210);
        DUE.is("more ELEMENTS than IMAGES", x.order(), 12);
        DUE.is("two IMAGES", x.images(21, NONE), 2);
        DUE.is("the first", x.images(42, 0), 21);
        DUE.is("the second", x.images(42, 1), 42);
        DUE.is("no third", x.images(42, 2), NOT_SO_MANY);
        CarriedSets same = Due.with(6, 123450, 123450, 123450);
        DUE.is("told thrice, once", same.images(1, NONE), 6);
    }

    /** From a SET to itself: the ELEMENT that leaves all has the least number of all */
    private static void carrierToItself() {
        for (int n = 1; n <= 8; n++) {
            CarriedSets none = Due.with(n);
            CarriedSets all = allMoves(n);
            for (int set = 0; set < 1 << n; set++) {
                DUE.is("by none, " + set, none.carrier(set, set), Due.STAY[n]);
                DUE.is("by all, " + set, all.carrier(set, set), Due.STAY[n]);
            }
        }
    }

    /** "there may be none"; promise 12: "NONE" */
    private static void carrierNone() {
        CarriedSets x = Due.with(8);
        DUE.is("by none", x.carrier(1, 2), NONE);
        DUE.is("by none, back", x.carrier(2, 1), NONE);
        DUE.is("by none, large", x.carrier(127, 254), NONE);
        CarriedSets y = Due.with(6, 123450);
        DUE.is("like size, no IMAGE", y.carrier(3, 5), NONE);
        DUE.is("like size, an IMAGE", y.carrier(5, 10), 123450);
        DUE.is("that one's back", y.carrier(10, 5), 501234);
        DUE.refused("NONE does not count", x, 0, 0, 0);
        DUE.refused("NONE does not count", y, 0, 0, 0);
    }

    /** Promise 12: "BAD: sizes that are not like, too" */
    private static void carrierUnlikeSizes() {
        CarriedSets x = allMoves(8);
        int bad = 0;
        for (int size = 0; size <= 8; size++) {
            for (int to = 0; to <= 8; to++) {
                boolean like = size == to;
                DUE.is("sizes " + size + ", " + to, x.carrier((1 << size) - 1, (1 << to) - 1), like ? 1234567 : BAD);
                bad += like ? 0 : 1;
            }
        }
        DUE.refused("unlike sizes", x, bad, 0, 0);
        CarriedSets y = Due.with(4, 1230);
        DUE.is("like size, a bit beyond", y.carrier(1, 16), BAD);
        DUE.is("like size, both beyond", y.carrier(16, 16), BAD);
        DUE.is("below 0, like size", y.carrier(-1, -1), BAD);
        DUE.refused("carrier", y, 3, 0, 0);
    }

    /** "the ELEMENT of the least number by which the one's IMAGE is the other one" */
    private static void carrierLeastNumber() {
        CarriedSets x = allMoves(8);
        DUE.is("first to last", x.carrier(1, 128), 70123456);
        DUE.is("last to first", x.carrier(128, 1), 12345670);
        DUE.is("all but the last to all but the first", x.carrier(127, 254), 12345670);
        DUE.is("all but the first to all but the last", x.carrier(254, 127), 70123456);
        DUE.is("halves", x.carrier(240, 15), 45670123);
        CarriedSets square = Due.with(4, 1230, 3210);
        DUE.is("two carry it, 2301 and 3210", square.carrier(3, 12), 2301);
        DUE.is("two leave it, 0123 and 1032", square.carrier(12, 12), 123);
        DUE.is("not by its first POINT alone", square.carrier(2, 8), 321);
    }

    /** "HOLD of a SET: how many ELEMENTS have the SET itself as its IMAGE" */
    private static void holdsOneToAll() {
        for (int n = 1; n <= 8; n++) {
            CarriedSets cycle = Due.with(n, Due.NEXT[n]);
            DUE.is("empty, N " + n, cycle.holds(0), n);
            DUE.is("all, N " + n, cycle.holds((1 << n) - 1), n);
            DUE.is("a POINT, N " + n, cycle.holds(1), 1);
            DUE.is("by none, N " + n, Due.with(n).holds(1), 1);
        }
        int[] ofEight = {40320, 5040, 1440, 720, 576, 720, 1440, 5040, 40320};
        for (int size = 0; size <= 8; size++) {
            DUE.is("all MOVES, size " + size, allMoves(8).holds((1 << size) - 1), ofEight[size]);
        }
    }

    /** Promise 14: "HEADS of a size (0 .. N)" */
    private static void headsSizesZeroToN() {
        for (int n = 1; n <= 8; n++) {
            CarriedSets x = Due.with(n, Due.NEXT[n]);
            DUE.is("size 0, N " + n, x.heads(0, NONE), 1);
            DUE.is("size N, N " + n, x.heads(n, NONE), 1);
            DUE.is("size N, the first, N " + n, x.heads(n, 0), (1 << n) - 1);
            DUE.is("size -1, N " + n, x.heads(-1, NONE), BAD);
            DUE.is("size N and 1, N " + n, x.heads(n + 1, NONE), BAD);
            DUE.is("size N and 1, the first, N " + n, x.heads(n + 1, 0), BAD);
            for (int size : Due.FAR) {
                DUE.is("size " + size + ", N " + n, x.heads(size, NONE), BAD);
            }
            DUE.refused("heads, N " + n, x, 3 + Due.FAR.length, 0, 0);
        }
    }

    /** Promise 14: "how many (i NONE), the i-th; -5: not so many" */
    private static void headsHowManyAndTheLast() {
        int[] necklaces = {1, 1, 4, 7, 10, 7, 4, 1, 1};
        for (int size = 0; size <= 8; size++) {
            CarriedSets x = Due.with(8, 12345670);
            DUE.is("how many, size " + size, x.heads(size, NONE), necklaces[size]);
            int last = x.heads(size, necklaces[size] - 1);
            DUE.is("the last is its own LEAST, size " + size, x.least(last), last);
            DUE.is("its number, size " + size, x.head(last), necklaces[size] - 1);
            DUE.is("behind the last, size " + size, x.heads(size, necklaces[size]), NOT_SO_MANY);
            DUE.is("far behind, size " + size, x.heads(size, Integer.MAX_VALUE), NOT_SO_MANY);
        }
        DUE.is("the most there are", Due.with(8).heads(4, NONE), 70);
        DUE.is("the last of them", Due.with(8).heads(4, 69), 240);
        DUE.is("the 71st", Due.with(8).heads(4, 70), NOT_SO_MANY);
    }

    /** Promise 14: "BAD: i below -1, too" */
    private static void headsBelowMinusOne() {
        CarriedSets x = Due.with(8, 12345670);
        DUE.is("i -1", x.heads(2, -1), 4);
        DUE.is("i -2", x.heads(2, -2), BAD);
        DUE.is("i least", x.heads(2, Integer.MIN_VALUE), BAD);
        DUE.refused("heads", x, 2, 0, 0);
    }

    /** Promise 15: "Which number (0 on) of HEADS of its size LEAST of a SET is." */
    private static void headFirstAndLast() {
        CarriedSets x = Due.with(6, 123450);
        DUE.is("head(7), the first", x.head(7), 0);
        DUE.is("head(56), carried to 7", x.head(56), 0);
        DUE.is("head(21), the last", x.head(21), 3);
        DUE.is("head(42), carried to 21", x.head(42), 3);
        DUE.is("head(0)", x.head(0), 0);
        DUE.is("head(63)", x.head(63), 0);
        DUE.is("head(64)", x.head(64), BAD);
        DUE.is("head(-1)", x.head(-1), BAD);
        DUE.is("by none, the last of 70", Due.with(8).head(240), 69);
        DUE.is("by none, the first of 70", Due.with(8).head(15), 0);
    }

    /** "Refused .. BAD, NO, FULL": -5 and NONE are none of these */
    private static void answersThatDoNotCount() {
        CarriedSets x = Due.with(3);
        x.images(1, 1);
        x.heads(1, 3);
        x.carrier(1, 2);
        x.number(120);
        DUE.refused("-5 and NONE", x, 0, 0, 0);
        DUE.is("nor do they leave a STATE", x.told(6), 1);
    }
}
