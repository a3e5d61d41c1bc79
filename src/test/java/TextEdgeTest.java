/**
 * The edges of THE TEXT (Terms 2, promises 16 to 18), one function for each sentence that names
 * one; the sentence stands above it.
 */
public final class TextEdgeTest {
    private static final int NONE = Due.NONE, BAD = Due.BAD, NO = Due.NO, FULL = Due.FULL;
    private static final Due DUE = new Due("TextEdgeTest");

    public static void main(String[] args) {
        bytesZeroTo127();
        eightyBytesAtMost();
        badAheadOfFull();
        clearEmptyAndFull();
        eachEndedBySemicolon();
        pointsToldByN();
        figuresOfMAsNIsByThen();
        figuresOfM();
        numbersHaveOneFigure();
        blanksAnywhere();
        onlyBlanksAreBlanks();
        everyByteAtEveryPlace();
        endsTooEarly();
        emptyAndBlankTexts();
        firstFaultIsTold();
        faultAtTheLastPlace();
        faultLeavesAll();
        faultAheadOfStop();
        stopLeavesAll();
        stopFirstAndLastNumber();
        stopByEachRefusal();
        nothingCountsByTheText();
        oneStateForAll();
        theTextStays();
        oneOrderToMost();
        DUE.end();
    }

    private static String times(String part, int count) {
        return part.repeat(count);
    }

    /** What reads answers to a text, on an object with N 3 and the GENERATORS 120 and 102. */
    private static void reads(String text, int want) {
        CarriedSets x = Due.retype(Due.with(3, 120, 102), text);
        DUE.is("'" + text + "'", x.reads(), want);
    }

    /** Promise 16: "A byte (0 .. 127) .. BAD" */
    private static void bytesZeroTo127() {
        CarriedSets x = new CarriedSets();
        DUE.is("type(-1)", x.type(-1), BAD);
        DUE.is("type(0)", x.type(0), 1);
        DUE.is("type(127)", x.type(127), 2);
        DUE.is("type(128)", x.type(128), BAD);
        DUE.is("type(255)", x.type(255), BAD);
        DUE.is("type(256 and n)", x.type(256 + 'n'), BAD);
        for (int c : Due.FAR) {
            DUE.is("type(" + c + ")", x.type(c), BAD);
        }
        DUE.is("bytes", x.told(3), 2);
        DUE.refused("type", x, 4 + Due.FAR.length, 0, 0);
        for (int from = 0; from < 128; from += 64) {
            CarriedSets y = new CarriedSets();
            for (int c = from; c < from + 64; c++) {
                DUE.is("type(" + c + ")", y.type(c), c - from + 1);
            }
        }
    }

    /** "THE TEXT (80 bytes at most)"; promise 16: "FULL: 80" */
    private static void eightyBytesAtMost() {
        CarriedSets x = Due.retype(new CarriedSets(), times("n1;", 26));
        DUE.is("byte 79", x.type(' '), 79);
        DUE.is("byte 80", x.type(' '), 80);
        DUE.is("byte 81", x.type(' '), FULL);
        DUE.is("byte 81 once more", x.type('q'), FULL);
        DUE.is("bytes", x.told(3), 80);
        DUE.is("no STATE", x.told(6), 0);
        DUE.refused("type", x, 0, 0, 2);
        DUE.is("what was refused is not there", x.reads(), 26);
        DUE.is("clear", x.clear(), 80);
        DUE.is("room again", x.type('n'), 1);
    }

    /** "the first of: BAD .. FULL" */
    private static void badAheadOfFull() {
        CarriedSets x = Due.retype(new CarriedSets(), times(" ", 80));
        DUE.is("type(128) at 80", x.type(128), BAD);
        DUE.is("type(-1) at 80", x.type(-1), BAD);
        DUE.is("type(127) at 80", x.type(127), FULL);
        DUE.is("type(0) at 80", x.type(0), FULL);
        DUE.refused("type", x, 2, 0, 2);
    }

    /** Promise 17: "THE TEXT is empty: how many it had." */
    private static void clearEmptyAndFull() {
        for (int length : new int[] {0, 1, 2, 79, 80}) {
            CarriedSets x = Due.retype(new CarriedSets(), times("q", length));
            DUE.is("clear of " + length, x.clear(), length);
            DUE.is("bytes", x.told(3), 0);
            DUE.is("clear again", x.clear(), 0);
            DUE.is("an empty one is read", x.reads(), -10);
            DUE.is("no STATE", x.told(6), 0);
            DUE.refused("clear", x, 0, 0, 0);
        }
        CarriedSets y = Due.retype(new CarriedSets(), "n7;n6;");
        Due.retype(y, "n2;");
        DUE.is("what it had is gone", y.reads(), 1);
        DUE.is("N", y.told(4), 2);
    }

    /** "tells ORDERS, each ended by ;" */
    private static void eachEndedBySemicolon() {
        reads("n4;", 1);
        reads("n4", -12);
        reads("n4;n5", -15);
        reads("n4n5;", -12);
        reads("n4,n5;", -12);
        reads("n4;;", -13);
        reads(";", -10);
        reads(";n4;", -10);
        reads("n4;n5;", 2);
        reads("m012;", 1);
        reads("m012", -14);
        reads("m012m021;", -14);
        reads("x0;", 1);
        reads("x0", -12);
        reads("x0x0;", -12);
    }

    /** "n N (as points)"; "n not 1 to 8: its figure" */
    private static void pointsToldByN() {
        for (int n = 0; n <= 9; n++) {
            CarriedSets x = Due.retype(Due.with(3, 120), "n" + n + ";");
            boolean taken = n >= 1 && n <= 8;
            DUE.is("n" + n, x.reads(), taken ? 1 : -11);
            DUE.is("n" + n + ": N", x.told(4), taken ? n : 3);
            DUE.is("n" + n + ": GENERATORS", x.told(5), taken ? 0 : 1);
            DUE.is("n" + n + ": STATES", x.told(6), taken ? 3 : 2);
            DUE.refused("n" + n, x, 0, 0, 0);
        }
        reads("n0", -11);
        reads("n9", -11);
        reads("  n  0", -15);
        reads("n4;n9;", -14);
        reads("n-1;", -11);
    }

    /** "m and N figures (as moves, N as it is by then)" */
    private static void figuresOfMAsNIsByThen() {
        reads("m012;", 1);
        reads("m01;", -13);
        reads("m0123;", -14);
        reads("n4;m0123;", 2);
        reads("n4;m012;", -17);
        reads("n2;m01;", 2);
        reads("n2;m012;", -16);
        reads("n1;m0;", 2);
        reads("n1;m01;", -15);
        reads("n1;m;", -14);
        reads("n8;m76543210;n2;m10;n3;m210;", 6);
        reads("n8;m76543210;n2;m210;", -10 - 17);
        reads("m210;n8;m01234567;", 3);
        for (int n = 1; n <= 8; n++) {
            String figures = "01234567".substring(0, n);
            reads("n" + n + ";m" + figures + ";", 2);
            reads("n" + n + ";m" + figures.substring(0, n - 1) + ";", -10 - 4 - (n - 1));
            reads("n" + n + ";m" + figures + n + ";", -10 - 4 - n);
            CarriedSets x = Due.retype(Due.with(n), "m" + figures + ";");
            DUE.is("N " + n + " as it is", x.reads(), 1);
            DUE.is("N " + n + ": GENERATORS", x.told(5), 1);
        }
        CarriedSets first = Due.retype(new CarriedSets(), "m43210;");
        DUE.is("5 at first", first.reads(), 1);
        DUE.is("its order", first.order(), 2);
        CarriedSets behind = Due.retype(Due.with(3), "n8;");
        behind.reads();
        behind.back();
        Due.retype(behind, "m120;");
        DUE.is("N as back left it", behind.reads(), 1);
    }

    /** "of m a figure that is no POINT, or was told" */
    private static void figuresOfM() {
        reads("m3", -11);
        reads("m312;", -11);
        reads("m032;", -12);
        reads("m013;", -13);
        reads("m019;", -13);
        reads("m002;", -12);
        reads("m010;", -13);
        reads("m011;", -13);
        reads("m 2 1 2;", -16);
        reads("m 2 1 3;", -16);
        reads("m210;", 1);
        reads("n8;m01234568;", -10 - 11);
        reads("n8;m01234566;", -10 - 11);
        reads("n8;m01234567;", 2);
        reads("n1;m1;", -14);
        // what one ORDER told does not bind the next
        reads("x0;m012;x0;m012;", 4);
    }

    /** "Numbers have one figure but those of m" */
    private static void numbersHaveOneFigure() {
        reads("n12;", -12);
        reads("n08;", -11);
        reads("n88;", -12);
        reads("n 1 2;", -14);
        reads("x00;", -12);
        reads("x01;", -12);
        reads("x 0 0;", -14);
        reads("n;", -11);
        reads("x;", -11);
        reads("m;", -11);
    }

    /** "blanks (32) may stand anywhere (between figures of m, too)" */
    private static void blanksAnywhere() {
        String plain = "n4;m1032;x0;";
        for (int place = 0; place <= plain.length(); place++) {
            reads(plain.substring(0, place) + " " + plain.substring(place), 3);
            reads(plain.substring(0, place) + times(" ", 68) + plain.substring(place), 3);
        }
        CarriedSets x = Due.retype(new CarriedSets(), "  n  4  ;  m  1  0  3  2  ;  ");
        DUE.is("blanks all over", x.reads(), 2);
        DUE.is("the MOVE is told", x.number(1032), 1);
        reads(" n 0 ;", -13);
        reads("n4;   q", -16);
    }

    /** "blanks (32)": no other byte is one */
    private static void onlyBlanksAreBlanks() {
        for (int c : new int[] {0, 8, 9, 10, 11, 12, 13, 31, 33, 95, 127}) {
            reads((char) c + "n4;", -10);
            reads("n" + (char) c + "4;", -11);
            reads("n4" + (char) c + ";", -12);
            reads("n4;" + (char) c, -13);
            reads("m0" + (char) c + "12;", -12);
        }
    }

    /** "the first byte that can not stand there": each of 128 behind each kind of beginning */
    private static void everyByteAtEveryPlace() {
        String[] begun = {"", "n4;", "n", "n4", "m", "m1", "m12", "m120", "x", "x0", "n4;m", "n4;m012", "n4;m0123", "n1;m"};
        String[] stand = {"nmx", "nmx", "12345678", ";", "012", "02", "0", ";", "0123456789", ";", "0123", "3", ";", "0"};
        for (int k = 0; k < begun.length; k++) {
            for (int c = 0; c < 128; c++) {
                String text = begun[k] + (char) c;
                boolean stands = c == ' ' || stand[k].indexOf(c) >= 0;
                int early = -10 - text.length();
                int wrong = -10 - begun[k].length();
                int want = stands ? early : wrong;
                if (c == ';' && stands) {
                    want = k >= 12 ? 2 : 1;
                } else if (c == ' ' && k == 1) {
                    want = 1;
                }
                reads(text, want);
            }
        }
    }

    /** "the TEXT's length, if it ends too early" */
    private static void endsTooEarly() {
        String text = " n4 ; m 1 0 3 2 ;x 0;m0123; ";
        int done = 0;
        boolean whole = false;
        for (int length = 0; length <= text.length(); length++) {
            if (length > 0 && text.charAt(length - 1) == ';') {
                done++;
                whole = true;
            } else if (length > 0 && text.charAt(length - 1) != ' ') {
                whole = false;
            }
            reads(text.substring(0, length), whole ? done : -10 - length);
        }
        reads("n4   ", -15);
        reads("n    ", -15);
        reads("m01  ", -15);
        reads("x    ", -15);
        reads("n4;n ", -15);
    }

    /** "(an empty one, one of blanks alone, too)" */
    private static void emptyAndBlankTexts() {
        for (int length = 0; length <= 80; length++) {
            CarriedSets x = Due.retype(new CarriedSets(), times(" ", length));
            DUE.is(length + " blanks", x.reads(), -10 - length);
            DUE.is(length + " blanks: no STATE", x.told(6), 0);
            DUE.refused(length + " blanks", x, 0, 0, 0);
        }
    }

    /** "the first byte that can not stand there" */
    private static void firstFaultIsTold() {
        reads("qq", -10);
        reads("nqq", -11);
        reads("n0;n9;q", -11);
        reads("n4;m0q1q;", -10 - 5);
        reads("n4;m0423;", -10 - 5);
        reads("n4;m0043;", -10 - 5);
        reads("n5;q n", -13);
    }

    /** The greatest FAULTS: the last byte's place, the length of a full TEXT */
    private static void faultAtTheLastPlace() {
        reads(times(" ", 79) + "q", -10 - 79);
        reads(times("n1;", 26) + " q", -10 - 79);
        reads(times("n1;", 26) + "qq", -10 - 78);
        reads(times("n1;", 26) + "n1", -10 - 80);
        reads(times("n1;", 26) + "n ", -10 - 80);
        reads(times("n1;", 26) + "  ", 26);
        CarriedSets x = Due.retype(new CarriedSets(), times("n1;", 26) + "n1");
        DUE.is("no room for its end", x.type(';'), FULL);
        DUE.is("it ends too early", x.reads(), -90);
    }

    /** "If there is one, nothing is done." */
    private static void faultLeavesAll() {
        for (String text : new String[] {"", "  ", "q", "n7;q", "n7;m", "n7", "x0;x0;q", "m012;n9;", "n7;m6543210;m012;"}) {
            CarriedSets x = Due.retype(Due.with(3, 120, 102), text);
            long before = x.digest();
            DUE.is("a FAULT in '" + text + "'", x.reads() <= -10 ? 1 : 0, 1);
            DUE.is("nothing is done by '" + text + "'", x.digest(), before);
            DUE.is("back goes where it went, '" + text + "'", x.back(), 2);
            DUE.is("to one GENERATOR, '" + text + "'", x.order(), 3);
        }
    }

    /** "If there is one, nothing is done": not even an ORDER ahead of it that would stop all is looked at */
    private static void faultAheadOfStop() {
        reads("x9;", -1000);
        reads("x9;q", -13);
        reads("x9;n", -14);
        reads("x9;n9;", -14);
        reads("x2;m012;m012", -10 - 12);
        reads("m012;m012;m012;m013;", -10 - 18);
        // an ORDER that is refused leaves N, so that the next ones are looked at with the N they would have
        reads("x9;m0123;", -10 - 7);
        reads("x9;n4;m012;", -10 - 10);
        reads("x9;n4;m0123;", -1000);
    }

    /** "An ORDER that its call would refuse stops all: nothing is done." */
    private static void stopLeavesAll() {
        for (String text : new String[] {"x2;", "x0;x0;x0;", "n7;x0;", "m012;m012;", "n2;m10;m10;m10;m10;n4;", "x1;n5;x0;n3;"}) {
            CarriedSets x = Due.retype(Due.with(3, 120, 102), text);
            long before = x.digest();
            DUE.is("a stop in '" + text + "'", x.reads() <= -1000 ? 1 : 0, 1);
            DUE.is("nothing is done by '" + text + "'", x.digest(), before);
            DUE.is("back goes where it went, '" + text + "'", x.back(), 2);
            DUE.is("to one GENERATOR, '" + text + "'", x.order(), 3);
        }
    }

    /** Promise 18: "-1000 less the number (0 on) of the ORDER that stops all" */
    private static void stopFirstAndLastNumber() {
        reads("x2;", -1000);
        reads("x2;x9;", -1000);
        reads("n4;x0;", -1001);
        for (int k = 0; k <= 25; k++) {
            reads(times("n1;", k) + "x" + (k == 0 ? 2 : 0) + ";" + times("n1;", 25 - k), -1000 - k);
            reads(times("n1;", k) + "x9;" + times("x9;", 25 - k), -1000 - k);
        }
    }

    /** x: drops' BAD; m: moves' FULL; at the edge between taken and refused */
    private static void stopByEachRefusal() {
        for (int count = 0; count <= 3; count++) {
            for (int i = 0; i <= 9; i++) {
                CarriedSets x = Due.with(3);
                for (int k = 0; k < count; k++) {
                    x.moves(120);
                }
                Due.retype(x, "x" + i + ";");
                DUE.is("x" + i + " of " + count, x.reads(), i < count ? 1 : -1000);
                DUE.is("x" + i + " of " + count + ": GENERATORS", x.told(5), i < count ? count - 1 : count);
            }
            CarriedSets y = Due.with(3);
            for (int k = 0; k < count; k++) {
                y.moves(120);
            }
            Due.retype(y, "m012;m102;m210;m021;");
            DUE.is("four m behind " + count, y.reads(), -1000 - (3 - count));
            DUE.is("four m behind " + count + ": GENERATORS", y.told(5), count);
            Due.retype(y, times("m012;", 3 - count) + "x0;m012;");
            DUE.is("to three, one goes, one comes, behind " + count, y.reads(), 3 - count + 2);
            DUE.is("then there are three", y.told(5), 3);
        }
    }

    /** "By what THE TEXT tells, by a FAULT of it nothing counts." */
    private static void nothingCountsByTheText() {
        CarriedSets x = Due.with(3, 120, 120, 120);
        for (String text : new String[] {"x3;", "x9;", "m012;", "n3;x0;", "", " ", "q", "n0;", "n9;", "m333;", "m01", "n2;"}) {
            Due.retype(x, text);
            x.reads();
            DUE.refused("by '" + text + "'", x, 0, 0, 0);
        }
    }

    /** Promise 18: "S (one STATE for all)" */
    private static void oneStateForAll() {
        CarriedSets x = Due.retype(new CarriedSets(), times("n8;", 20) + "m76543210;");
        DUE.is("21 ORDERS", x.reads(), 21);
        DUE.is("one STATE", x.told(6), 1);
        DUE.is("back ahead of all", x.back(), 0);
        DUE.is("N", x.told(4), 5);
        DUE.is("GENERATORS", x.told(5), 0);
        Due.retype(x, "n5;");
        DUE.is("nothing changes by it", x.reads(), 1);
        DUE.is("it leaves a STATE, too", x.told(6), 1);
        Due.retype(x, "m12340;x0;");
        DUE.is("nor by this one", x.reads(), 2);
        DUE.is("it leaves a STATE, too", x.told(6), 2);
        for (int k = 0; k < 6; k++) {
            x.reads();
        }
        DUE.is("5 at most", x.told(6), 5);
    }

    /** Promise 18: "(THE TEXT stays)" */
    private static void theTextStays() {
        CarriedSets x = Due.retype(new CarriedSets(), "n2;m10;");
        DUE.is("read", x.reads(), 2);
        DUE.is("bytes", x.told(3), 7);
        DUE.is("read again", x.reads(), 2);
        DUE.is("one more byte", x.type(' '), 8);
        DUE.is("back", x.back(), 1);
        DUE.is("bytes behind back", x.told(3), 8);
        DUE.is("a byte that is a FAULT", x.type('q'), 9);
        DUE.is("the FAULT", x.reads(), -18);
        DUE.is("bytes behind a FAULT", x.told(3), 9);
        Due.retype(x, "x1;");
        DUE.is("the stop", x.reads(), -1000);
        DUE.is("bytes behind a stop", x.told(3), 3);
        DUE.is("clear", x.clear(), 3);
    }

    /** Promise 18: "ORDERS are done .. : how many" */
    private static void oneOrderToMost() {
        for (int k = 1; k <= 26; k++) {
            reads(times("n1;", k), k);
        }
        CarriedSets x = Due.retype(Due.with(3, 120, 102), "x1;m021;m210;x2;");
        DUE.is("four", x.reads(), 4);
        DUE.is("as if called one by one: GENERATORS", x.told(5), 2);
        DUE.is("order", x.order(), 6);
        DUE.is("drops(0)", x.drops(0), 1);
        DUE.is("021 is left", x.number(21), 1);
        DUE.is("120 went", x.number(120), NONE);
        DUE.is("back is asked for until none", x.back() + x.back() + x.back() + x.back(), 4 + 3 + 2 + 1);
        DUE.is("the oldest", x.back() + x.back(), 0 + NO);
    }
}
