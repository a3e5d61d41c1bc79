import java.util.ArrayList;
import java.util.List;

/**
 * With few POINTS little is left out: each N to 4, each choice of two GENERATORS (of three up to N
 * 3), each question with each number that is taken, against the plain model.
 */
public final class SmallTest {
    private static final Due DUE = new Due("SmallTest");

    public static void main(String[] args) {
        for (int n = 1; n <= 4; n++) {
            List<Integer> moves = movesOf(n);
            for (int a : moves) {
                asksImages(n, a);
                for (int b : moves) {
                    asks(n, a, b);
                    for (int c : n <= 3 ? moves : List.<Integer>of()) {
                        asks(n, a, b, c);
                    }
                }
            }
        }
        DUE.end();
    }

    private static List<Integer> movesOf(int n) {
        List<Integer> moves = new ArrayList<>();
        for (int code = 0; code <= Due.TURN[n]; code++) {
            if (Model.figures(code, n) != null) {
                moves.add(code);
            }
        }
        return moves;
    }

    private static void asksImages(int n, int code) {
        CarriedSets x = Due.with(n);
        for (int set = 0; set < 1 << n; set++) {
            DUE.is("image(" + set + ", " + code + "), N " + n, x.image(set, code), Model.carry(set, Model.figures(code, n)));
        }
    }

    private static void asks(int n, int... codes) {
        Model model = new Model();
        model.points(n);
        for (int code : codes) {
            model.moves(code);
        }
        String where = ", N " + n + ", " + model.generators;
        CarriedSets x = Due.with(n, codes);
        DUE.is("digest" + where, x.digest(), model.digest());
        DUE.is("order" + where, x.order(), model.all().length);
        for (int code : movesOf(n)) {
            DUE.is("number(" + code + ")" + where, x.number(code), model.number(code));
        }
        for (int k = 0; k <= model.all().length; k++) {
            DUE.is("element(" + k + ")" + where, x.element(k), model.element(k));
        }
        for (int p = 0; p < n; p++) {
            for (int what = 0; what <= 2; what++) {
                DUE.is("of(" + p + ", " + what + ")" + where, x.of(p, what), model.of(p, what));
            }
        }
        asksSets(Due.with(n, codes), model, where);
        asksCarriers(Due.with(n, codes), model, where);
    }

    private static void asksSets(CarriedSets x, Model model, String where) {
        for (int set = 0; set < 1 << model.n; set++) {
            DUE.is("least(" + set + ")" + where, x.least(set), model.least(set));
            DUE.is("holds(" + set + ")" + where, x.holds(set), model.holds(set));
            DUE.is("head(" + set + ")" + where, x.head(set), model.head(set));
            int last = model.images(set, -1);
            for (int i = -1; i <= last; i++) {
                DUE.is("images(" + set + ", " + i + ")" + where, x.images(set, i), model.images(set, i));
            }
        }
        for (int size = 0; size <= model.n; size++) {
            int last = model.heads(size, -1);
            for (int i = -1; i <= last; i++) {
                DUE.is("heads(" + size + ", " + i + ")" + where, x.heads(size, i), model.heads(size, i));
            }
        }
    }

    private static void asksCarriers(CarriedSets x, Model model, String where) {
        for (int set = 0; set < 1 << model.n; set++) {
            for (int to = 0; to < 1 << model.n; to++) {
                DUE.is("carrier(" + set + ", " + to + ")" + where, x.carrier(set, to), model.carrier(set, to));
            }
        }
    }
}
