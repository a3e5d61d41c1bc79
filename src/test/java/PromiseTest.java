/** The promises one by one: ordinary inputs, the document's edges, wrong inputs; told by hand. */
public final class PromiseTest {
    private static final int NONE = Due.NONE, BAD = Due.BAD, NO = Due.NO, FULL = Due.FULL, NOT_SO_MANY = Due.NOT_SO_MANY;
    private static final Due DUE = new Due("PromiseTest");

    public static void main(String[] args) {
        newObject();
        points();
        moves();
        drops();
        order();
        of();
        number();
        element();
        image();
        least();
        images();
        carrier();
        holds();
        heads();
        head();
        type();
        clear();
        readsOrders();
        readsFaults();
        readsStops();
        back();
        told();
        digest();
        DUE.end();
    }

    private static void due(String what, long got, long want) {
        DUE.is(what, got, want);
    }

    private static CarriedSets with(int n, int... codes) {
        return Due.with(n, codes);
    }

    private static void retype(CarriedSets x, String text) {
        Due.retype(x, text);
    }

    private static void refused(String what, CarriedSets x, int bad, int no, int full) {
        DUE.refused(what, x, bad, no, full);
    }

    private static void newObject() {
        CarriedSets x = new CarriedSets();
        int[] want = {0, 0, 0, 0, 5, 0, 0};
        for (int what = 0; what <= 6; what++) {
            due("1 told(" + what + ")", x.told(what), want[what]);
        }
        due("1 order", x.order(), 1);
        due("1 element(0)", x.element(0), 1234);
        due("1 reads", x.reads(), -10);
        due("1 back", x.back(), NO);
    }

    private static void points() {
        CarriedSets x = new CarriedSets();
        due("2 points(1)", x.points(1), 5);
        due("2 points(8)", x.points(8), 1);
        due("2 moves", x.moves(10234567), 0);
        due("2 points(8) again", x.points(8), 8);
        due("2 generators are gone", x.told(5), 0);
        due("2 order", x.order(), 1);
        due("2 states", x.told(6), 4);
        due("2 points(0)", x.points(0), BAD);
        due("2 points(9)", x.points(9), BAD);
        due("2 points(-8)", x.points(-8), BAD);
        due("2 points(least int)", x.points(Integer.MIN_VALUE), BAD);
        due("2 N stays", x.told(4), 8);
        due("2 refused leave no state", x.told(6), 4);
        refused("2", x, 4, 0, 0);
    }

    private static void moves() {
        CarriedSets x = with(4);
        due("3 moves(1032)", x.moves(1032), 0);
        due("3 moves(123), 0 at the front", x.moves(123), 1);
        due("3 a figure beyond N", x.moves(4123), BAD);
        due("3 a figure twice", x.moves(1132), BAD);
        due("3 a figure too many", x.moves(11032), BAD);
        due("3 0 twice at the front", x.moves(12), BAD);
        due("3 below 0", x.moves(-1032), BAD);
        due("3 greatest int", x.moves(Integer.MAX_VALUE), BAD);
        due("3 least int", x.moves(Integer.MIN_VALUE), BAD);
        due("3 the same once more", x.moves(1032), 2);
        due("3 a fourth", x.moves(3210), FULL);
        due("3 BAD ahead of FULL", x.moves(3211), BAD);
        refused("3", x, 8, 0, 1);
        due("3 states", x.told(6), 4);
        due("3 order", x.order(), 2);
        CarriedSets one = with(1);
        due("3 N 1: moves(0)", one.moves(0), 0);
        due("3 N 1: moves(-10)", one.moves(-10), BAD);
        due("3 N 1: moves(10)", one.moves(10), BAD);
        due("3 N 1: order", one.order(), 1);
        CarriedSets eight = with(8);
        due("3 N 8: moves(1234567)", eight.moves(1234567), 0);
        due("3 N 8: moves(76543210)", eight.moves(76543210), 1);
        due("3 N 8: moves(176543210)", eight.moves(176543210), BAD);
        due("3 N 8: moves(86543210)", eight.moves(86543210), BAD);
    }

    private static void drops() {
        CarriedSets x = with(3, 102, 120, 210);
        due("4 drops(3)", x.drops(3), BAD);
        due("4 drops(-1)", x.drops(-1), BAD);
        due("4 drops(0)", x.drops(0), 2);
        due("4 those behind are nearer: drops(1)", x.drops(1), 1);
        due("4 the cycle is left", x.order(), 3);
        due("4 drops(1)", x.drops(1), BAD);
        due("4 drops(0)", x.drops(0), 0);
        due("4 drops(0), none", x.drops(0), BAD);
        due("4 order", x.order(), 1);
        refused("4", x, 4, 0, 0);
        due("4 states", x.told(6), 5);
        due("4 back", x.back(), 4);
        due("4 the last that went is back", x.order(), 3);
    }

    private static void order() {
        due("5 none", with(8).order(), 1);
        due("5 the one that leaves all", with(5, 1234).order(), 1);
        due("5 a cycle of 5", with(5, 12340).order(), 5);
        due("5 all of 5", with(5, 12340, 10234).order(), 120);
        due("5 even ones of 5", with(5, 12034, 1342).order(), 60);
        due("5 all of 8", with(8, 12345670, 10234567).order(), 40320);
        due("5 cycles of 3 and 5", with(8, 12045673).order(), 15);
        due("5 all of 3 and a swap of others", with(6, 102345, 21345, 12354).order(), 12);
        due("5 the square", with(4, 1230, 3210).order(), 8);
    }

    private static void of() {
        CarriedSets x = with(5, 10234, 1243);
        due("6 ORBIT of 0", x.of(0, 0), 3);
        due("6 ORBIT of 1", x.of(1, 0), 3);
        due("6 ORBIT of 2", x.of(2, 0), 4);
        due("6 ORBIT of 4", x.of(4, 0), 24);
        due("6 CHAIN of 0", x.of(0, 1), 3);
        due("6 CHAIN of 1", x.of(1, 1), 2);
        due("6 CHAIN of 3", x.of(3, 1), 24);
        due("6 CHAIN of 4", x.of(4, 1), 16);
        due("6 least of 1", x.of(1, 2), 0);
        due("6 least of 2", x.of(2, 2), 2);
        due("6 least of 4", x.of(4, 2), 3);
        due("6 POINT 5", x.of(5, 0), BAD);
        due("6 POINT -1", x.of(-1, 0), BAD);
        due("6 what 3", x.of(0, 3), BAD);
        due("6 what -1", x.of(0, -1), BAD);
        refused("6", x, 4, 0, 0);
        due("6 CHAIN of 1 in the square", with(4, 1230, 3210).of(1, 1), 10);
    }

    private static void number() {
        CarriedSets x = with(3, 120);
        due("7 the one that leaves all", x.number(12), 0);
        due("7 120", x.number(120), 1);
        due("7 201", x.number(201), 2);
        due("7 no ELEMENT", x.number(102), NONE);
        due("7 no ELEMENT, 0 left", x.number(21), NONE);
        due("7 no MOVE", x.number(110), BAD);
        due("7 below 0", x.number(-120), BAD);
        due("7 too long", x.number(1203), BAD);
        refused("7", x, 3, 0, 0);
        int[] square = {123, 321, 1032, 1230, 2103, 2301, 3012, 3210};
        CarriedSets y = with(4, 1230, 3210);
        for (int k = 0; k < square.length; k++) {
            due("7 the square: " + square[k], y.number(square[k]), k);
            due("8 the square: " + k, y.element(k), square[k]);
        }
        due("7 outside the square", y.number(132), NONE);
        due("7 outside the square, too", y.number(1203), NONE);
    }

    private static void element() {
        CarriedSets x = with(3, 102, 120);
        int[] all = {12, 21, 102, 120, 201, 210};
        for (int k = 0; k < all.length; k++) {
            due("8 element(" + k + ")", x.element(k), all[k]);
        }
        due("8 element(6)", x.element(6), NO);
        due("8 element(greatest int)", x.element(Integer.MAX_VALUE), NO);
        due("8 element(-1)", x.element(-1), BAD);
        refused("8", x, 1, 2, 0);
        due("8 N 1", with(1).element(0), 0);
    }

    private static void image() {
        CarriedSets x = with(4, 1032);
        due("9 by an ELEMENT", x.image(5, 1032), 10);
        due("9 by another MOVE", x.image(3, 2310), 12);
        due("9 p' of p, not the other way", x.image(1, 1230), 2);
        due("9 empty", x.image(0, 3210), 0);
        due("9 all", x.image(15, 3210), 15);
        due("9 a bit beyond", x.image(16, 1032), BAD);
        due("9 below 0", x.image(-1, 1032), BAD);
        due("9 no MOVE", x.image(1, 1031), BAD);
        due("9 neither", x.image(99, 1031), BAD);
        refused("9", x, 4, 0, 0);
    }

    private static void least() {
        CarriedSets x = with(4, 1230);
        due("10 least(12)", x.least(12), 3);
        due("10 least(9): 0 and 3 are carried to 0 and 1", x.least(9), 3);
        due("10 least(10)", x.least(10), 5);
        due("10 least(14)", x.least(14), 7);
        due("10 least(0)", x.least(0), 0);
        due("10 least(15)", x.least(15), 15);
        due("10 least(16)", x.least(16), BAD);
        due("10 least(-1)", x.least(-1), BAD);
        refused("10", x, 2, 0, 0);
        // 0 and 3 are ahead of 1 and 2, though the number 9 is greater than 6
        due("10 not by numbers", with(4, 1032).least(6), 9);
    }

    private static void images() {
        CarriedSets x = with(4, 1230);
        int[] neighbours = {3, 9, 6, 12};
        due("11 how many", x.images(12, NONE), 4);
        for (int i = 0; i < neighbours.length; i++) {
            due("11 images(12, " + i + ")", x.images(12, i), neighbours[i]);
        }
        due("11 images(12, 4)", x.images(12, 4), NOT_SO_MANY);
        due("11 greatest int", x.images(12, Integer.MAX_VALUE), NOT_SO_MANY);
        due("11 the empty one", x.images(0, NONE), 1);
        due("11 each once", x.images(5, NONE), 2);
        due("11 i -2", x.images(12, -2), BAD);
        due("11 a bit beyond", x.images(16, 0), BAD);
        due("11 below 0", x.images(-1, NONE), BAD);
        refused("11", x, 3, 0, 0);
    }

    private static void carrier() {
        CarriedSets x = with(4, 1230, 3210);
        due("12 leaves all", x.carrier(3, 3), 123);
        due("12 the least of two", x.carrier(1, 8), 3012);
        due("12 the least of two that leave 1", x.carrier(2, 2), 123);
        due("12 swaps sides", x.carrier(3, 12), 2301);
        due("12 a neighbour", x.carrier(3, 6), 1230);
        due("12 none", x.carrier(3, 5), NONE);
        due("12 empty", x.carrier(0, 0), 123);
        due("12 unlike sizes", x.carrier(3, 7), BAD);
        due("12 unlike sizes, empty", x.carrier(0, 1), BAD);
        due("12 a bit beyond", x.carrier(16, 1), BAD);
        due("12 a bit beyond, to", x.carrier(1, 16), BAD);
        due("12 below 0", x.carrier(-1, -1), BAD);
        refused("12", x, 5, 0, 0);
        due("12 all of 4, crossing", with(4, 1230, 1023).carrier(5, 6), 1023);
    }

    private static void holds() {
        CarriedSets x = with(4, 1230, 3210);
        due("13 empty", x.holds(0), 8);
        due("13 a POINT", x.holds(4), 2);
        due("13 neighbours", x.holds(6), 2);
        due("13 across", x.holds(10), 4);
        due("13 all", x.holds(15), 8);
        due("13 a bit beyond", x.holds(16), BAD);
        due("13 below 0", x.holds(-16), BAD);
        refused("13", x, 2, 0, 0);
        due("13 all of 8, 4 of them", with(8, 12345670, 10234567).holds(15), 576);
    }

    private static void heads() {
        CarriedSets x = with(4, 1032);
        int[] pairs = {3, 5, 9, 12};
        due("14 how many", x.heads(2, NONE), 4);
        for (int i = 0; i < pairs.length; i++) {
            due("14 heads(2, " + i + ")", x.heads(2, i), pairs[i]);
        }
        due("14 heads(2, 4)", x.heads(2, 4), NOT_SO_MANY);
        due("14 heads(0, -1)", x.heads(0, NONE), 1);
        due("14 heads(0, 0)", x.heads(0, 0), 0);
        due("14 heads(4, 0)", x.heads(4, 0), 15);
        due("14 heads(4, 1)", x.heads(4, 1), NOT_SO_MANY);
        due("14 size 5", x.heads(5, NONE), BAD);
        due("14 size -1", x.heads(-1, NONE), BAD);
        due("14 i -2", x.heads(2, -2), BAD);
        refused("14", x, 3, 0, 0);
        // with none all are their own: 0 and 3 come ahead of 1 and 2
        due("14 heads(2, 2) of 4", with(4).heads(2, 2), 9);
        due("14 heads(2, 3) of 4", with(4).heads(2, 3), 6);
        due("14 heads(4, -1) of 8", with(8).heads(4, NONE), 70);
    }

    private static void head() {
        CarriedSets x = with(4, 1032);
        due("15 head(3)", x.head(3), 0);
        due("15 head(10), carried to 5", x.head(10), 1);
        due("15 head(6), carried to 9", x.head(6), 2);
        due("15 head(12)", x.head(12), 3);
        due("15 head(8), carried to 4", x.head(8), 1);
        due("15 head(0)", x.head(0), 0);
        due("15 head(15)", x.head(15), 0);
        due("15 head(16)", x.head(16), BAD);
        due("15 head(-1)", x.head(-1), BAD);
        refused("15", x, 2, 0, 0);
    }

    private static void type() {
        CarriedSets x = new CarriedSets();
        due("16 type(0)", x.type(0), 1);
        due("16 type(127)", x.type(127), 2);
        due("16 type(128)", x.type(128), BAD);
        due("16 type(-1)", x.type(-1), BAD);
        for (int k = 3; k <= 80; k++) {
            due("16 byte " + k, x.type(32), k);
        }
        due("16 byte 81", x.type(32), FULL);
        due("16 BAD ahead of FULL", x.type(128), BAD);
        due("16 bytes", x.told(3), 80);
        due("16 no state", x.told(6), 0);
        refused("16", x, 3, 0, 1);
    }

    private static void clear() {
        CarriedSets x = new CarriedSets();
        due("17 empty", x.clear(), 0);
        retype(x, "n3;");
        due("17 three", x.clear(), 3);
        due("17 bytes", x.told(3), 0);
        due("17 empty again", x.clear(), 0);
        due("17 nothing to read", x.reads(), -10);
        due("17 no state", x.told(6), 0);
    }

    private static void reads(CarriedSets x, String text, int want) {
        retype(x, text);
        due("18 '" + text + "'", x.reads(), want);
    }

    private static void readsOrders() {
        CarriedSets x = new CarriedSets();
        reads(x, "n3;m120;m102;x0;", 4);
        due("18 N", x.told(4), 3);
        due("18 generators", x.told(5), 1);
        due("18 102 is left", x.number(102), 1);
        due("18 120 went", x.number(120), NONE);
        due("18 one state for all", x.told(6), 1);
        due("18 the text stays", x.told(3), 16);
        due("18 again", x.reads(), 4);
        due("18 a state again", x.told(6), 2);
        reads(x, "  x 0 ;  m 0 1  2 ; ", 2);
        due("18 order", x.order(), 1);
        due("18 back", x.back(), 2);
        due("18 back to 102", x.order(), 2);
        reads(x, "n8;m10234567;n1;m0;", 4);
        due("18 N 1", x.told(4), 1);
        due("18 one generator", x.told(5), 1);
        refused("18", x, 0, 0, 0);
    }

    private static void readsFaults() {
        CarriedSets x = with(3, 120);
        String[] texts = {"", " ", "     ", "n", "n4", "n4 ", "n4;m", "n0;", "n9;", " n 9;", "n12;", "n;", "nn", "q", "4", ";",
            ";n4;", "n4;;", "N4;", "m012", "m01;", "m0123;", "m013;", "m 0 0 1;", "m01 ", "n2;m012;", "n4;m012;", "m012;n4;m012;",
            "x", "x;", "x12;", "xa;", "x/;", "x:;", "n4\t;", "\tn4;", "m01\n2;", "n4;q;", "m1-2;", "m", "x0;x0"};
        int[] faults = {0, 1, 5, 1, 2, 3, 4, 1, 1, 3, 2, 1, 1, 0, 0, 0,
            0, 3, 0, 4, 3, 4, 3, 4, 4, 6, 7, 12,
            1, 1, 2, 1, 1, 1, 2, 0, 3, 3, 2, 1, 5};
        for (int k = 0; k < texts.length; k++) {
            reads(x, texts[k], -10 - faults[k]);
        }
        // a FAULT behind an ORDER that would be refused comes first
        reads(x, "x9;q", -13);
        reads(x, "m012;m012;m012;m012", -29);
        // behind one, N is as ORDERS told it by then
        reads(x, "x9;n2;m012;", -19);
        due("18 nothing is done: N", x.told(4), 3);
        due("18 nothing is done: order", x.order(), 3);
        due("18 no state", x.told(6), 2);
        refused("18 faults", x, 0, 0, 0);
        StringBuilder long80 = new StringBuilder();
        for (int k = 0; k < 80; k++) {
            long80.append(' ');
        }
        reads(x, long80.toString(), -90);
    }

    private static void readsStops() {
        CarriedSets x = with(3, 120);
        reads(x, "x1;", -1000);
        reads(x, "x9;", -1000);
        reads(x, "x0;x0;", -1001);
        reads(x, "m012;m102;m021;", -1002);
        reads(x, "n3;x0;x0;", -1001);
        reads(x, "n2;m10;m10;m10;m10;n4;", -1004);
        due("18 nothing is done: N", x.told(4), 3);
        due("18 nothing is done: generators", x.told(5), 1);
        due("18 nothing is done: order", x.order(), 3);
        due("18 no state", x.told(6), 2);
        refused("18 stops", x, 0, 0, 0);
    }

    private static void back() {
        CarriedSets x = new CarriedSets();
        due("19 none", x.back(), NO);
        x.points(6);
        x.moves(102345);
        x.moves(120345);
        x.drops(0);
        retype(x, "n2;m10;");
        x.reads();
        x.points(7);
        due("19 five at most", x.told(6), 5);
        due("19 to the text's", x.back(), 4);
        due("19 N 2", x.told(4), 2);
        due("19 10", x.number(10), 1);
        due("19 to the one ahead of the text", x.back(), 3);
        due("19 N 6", x.told(4), 6);
        due("19 order 3", x.order(), 3);
        due("19 the text stays", x.told(3), 7);
        due("19 to two generators", x.back(), 2);
        due("19 order 6", x.order(), 6);
        due("19 a new one", x.points(6), 6);
        due("19 it may go, too", x.back(), 2);
        due("19 order 6 again", x.order(), 6);
        due("19 to one generator", x.back(), 1);
        due("19 order 2", x.order(), 2);
        due("19 to none", x.back(), 0);
        due("19 N 6 with none", x.order(), 1);
        due("19 the oldest is lost", x.back(), NO);
        due("19 N", x.told(4), 6);
        refused("19", x, 0, 2, 0);
    }

    private static void told() {
        CarriedSets x = with(4, 1032);
        x.points(0);
        x.element(2);
        x.element(-1);
        x.image(16, 0);
        retype(x, "abc");
        x.moves(123);
        x.moves(123);
        x.moves(123);
        int[] want = {3, 1, 1, 3, 4, 3, 4};
        for (int what = 0; what <= 6; what++) {
            due("20 told(" + what + ")", x.told(what), want[what]);
        }
        due("20 told(7)", x.told(7), BAD);
        due("20 told(-1)", x.told(-1), BAD);
        due("20 it counts itself", x.told(0), 5);
        x.images(3, 9);
        x.heads(2, 9);
        x.number(321);
        x.carrier(3, 5);
        refused("20 answers that are no refusals", x, 5, 1, 1);
    }

    private static void digest() {
        due("21 N 2", with(2, 10).digest(), Due.digestOf(0, 0, 0, 0, 2, 1, 2, 10, 2, 3, 3, 0, 3, 2, 0, 1, 0, 1, 1, 1, 3));
        CarriedSets x = with(3);
        x.points(0);
        x.back();
        x.back();
        x.type(32);
        x.points(3);
        long want = Due.digestOf(1, 1, 0, 1, 3, 0, 1, 1, 1, 1, 0, 2, 2, 1, 4, 4, 2, 1, 0, 3, 1, 2, 4, 3, 3, 5, 6, 1, 7);
        due("21 N 3", x.digest(), want);
        due("21 asking changes nothing", x.digest(), want);
        due("21 heads in order", with(4, 1032).digest(),
            Due.digestOf(0, 0, 0, 0, 4, 1, 2, 1032, 2, 3, 3, 0, 3, 2, 0, 12, 4, 2, 12, 8, 2,
                1, 0, 2, 1, 4, 4, 3, 5, 9, 12, 2, 7, 13, 1, 15));
    }
}
