/** What the tests share: answers against those that are due, and objects made ready. */
final class Due {
    static final int NONE = -1, BAD = -2, NO = -3, FULL = -4, NOT_SO_MANY = -5;
    /** By N, the MOVE that leaves all: the least number of a MOVE. */
    static final int[] STAY = {0, 0, 1, 12, 123, 1234, 12345, 123456, 1234567};
    /** By N, the MOVE that turns all round: the greatest number of a MOVE. */
    static final int[] TURN = {0, 0, 10, 210, 3210, 43210, 543210, 6543210, 76543210};
    /** By N, the MOVE that moves each POINT one on. */
    static final int[] NEXT = {0, 0, 10, 120, 1230, 12340, 123450, 1234560, 12345670};
    /** Numbers that are too small or too large nearly everywhere. */
    static final int[] FAR = {Integer.MIN_VALUE, Integer.MIN_VALUE + 1, -1000000, -3, Integer.MAX_VALUE - 1, Integer.MAX_VALUE};

    private final String name;
    private int checks = 0;
    private int wrong = 0;

    Due(String name) {
        this.name = name;
    }

    void is(String what, long got, long want) {
        checks++;
        if (got != want) {
            wrong++;
            System.out.println(name + ": " + what + " answered " + got + ", due is " + want);
        }
    }

    void refused(String what, CarriedSets x, int bad, int no, int full) {
        is(what + ": told(0)", x.told(0), bad);
        is(what + ": told(1)", x.told(1), no);
        is(what + ": told(2)", x.told(2), full);
    }

    void end() {
        if (wrong > 0) {
            System.out.println(name + ": " + wrong + " of " + checks + " answers are not as due");
            System.exit(1);
        }
        System.out.println(name + ": " + checks + " answers as due");
    }

    static CarriedSets with(int n, int... codes) {
        CarriedSets x = new CarriedSets();
        x.points(n);
        for (int code : codes) {
            x.moves(code);
        }
        return x;
    }

    static CarriedSets retype(CarriedSets x, String text) {
        x.clear();
        for (char c : text.toCharArray()) {
            x.type(c);
        }
        return x;
    }

    static long digestOf(int... values) {
        long h = 2477;
        for (int v : values) {
            h = 31 * h + v;
        }
        return h;
    }
}
