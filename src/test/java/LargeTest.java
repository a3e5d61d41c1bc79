import java.util.ArrayList;
import java.util.Arrays;
import java.util.List;
import java.util.Random;

/**
 * With five to eight POINTS: groups whose ORDER is known from books, and groups drawn by a fixed
 * seed; every SET, and every two SETS of like size, against what all ELEMENTS do with them.
 */
public final class LargeTest {
    private static final int DRAWN = 40;
    private static final Due DUE = new Due("LargeTest");

    public static void main(String[] args) {
        known();
        Random random = new Random(2477);
        for (int k = 0; k < DRAWN; k++) {
            int n = 5 + random.nextInt(4);
            int[] codes = new int[random.nextInt(4)];
            for (int i = 0; i < codes.length; i++) {
                codes[i] = drawn(n, random);
            }
            asks(n, codes);
        }
        DUE.end();
    }

    private static void known() {
        order(20, 5, 12340, 2413);
        order(60, 5, 12340, 12034);
        order(60, 6, 123405, 542310);
        order(120, 6, 123405, 542310, 24135);
        order(21, 7, 1234560, 246135);
        order(42, 7, 1234560, 362514);
        order(168, 7, 1350246, 2103654);
        order(2520, 7, 1234560, 1203456);
        order(56, 8, 10325476, 2463175);
        order(168, 8, 12345607, 76325410);
        order(336, 8, 12345607, 76325410, 3625147);
        order(384, 8, 10234567, 23456701, 23014567);
        order(1152, 8, 10234567, 12304567, 45670123);
        order(1344, 8, 10325476, 2461357, 3214765);
        order(40320, 8, 12345670, 10234567);
    }

    private static void order(int due, int n, int... codes) {
        DUE.is("order, N " + n + ", " + Arrays.toString(codes), Due.with(n, codes).order(), due);
        asks(n, codes);
    }

    /** Any MOVE, a few swaps, swaps within pairs, or a turn: so that small groups come, too. */
    private static int drawn(int n, Random random) {
        int[] row = new int[n];
        for (int p = 0; p < n; p++) {
            row[p] = p;
        }
        int kind = random.nextInt(4);
        int turn = random.nextInt(n);
        for (int p = 0; p < n; p++) {
            if (kind == 0 || kind == 1 && p < 2) {
                swap(row, kind == 0 ? p : random.nextInt(n), random.nextInt(n));
            } else if (kind == 2 && p % 2 == 1 && random.nextBoolean()) {
                swap(row, p - 1, p);
            } else if (kind == 3) {
                row[p] = (p + turn) % n;
            }
        }
        return Model.code(row);
    }

    private static void swap(int[] row, int a, int b) {
        int held = row[a];
        row[a] = row[b];
        row[b] = held;
    }

    private static void asks(int n, int... codes) {
        Model model = new Model();
        model.points(n);
        for (int code : codes) {
            model.moves(code);
        }
        String where = ", N " + n + ", " + model.generators;
        DUE.is("digest" + where, Due.with(n, codes).digest(), model.digest());
        asksElements(Due.with(n, codes), model.all(), where);
        int[] holds = new int[1 << n];
        int[][] carriers = carriers(n, model.all(), holds);
        List<List<Integer>> heads = new ArrayList<>();
        for (int size = 0; size <= n; size++) {
            heads.add(new ArrayList<>());
        }
        for (int set : setsInOrder(n)) {
            CarriedSets x = Due.with(n, codes);
            List<Integer> images = asksImages(x, set, carriers, where);
            List<Integer> ofSize = heads.get(Integer.bitCount(set));
            if (images.get(0) == set) {
                ofSize.add(set);
            }
            DUE.is("holds(" + set + ")" + where, x.holds(set), holds[set]);
            DUE.is("head(" + set + ")" + where, x.head(set), ofSize.indexOf(images.get(0)));
        }
        asksHeads(Due.with(n, codes), heads, where);
    }

    private static void asksElements(CarriedSets x, int[][] all, String where) {
        int stride = 1 + all.length / 200;
        for (int k = 0; k < all.length; k += stride) {
            DUE.is("element(" + k + ")" + where, x.element(k), Model.code(all[k]));
            DUE.is("number(" + Model.code(all[k]) + ")" + where, x.number(Model.code(all[k])), k);
        }
        DUE.is("element, the last" + where, x.element(all.length - 1), Model.code(all[all.length - 1]));
        DUE.is("element, one more" + where, x.element(all.length), Due.NO);
    }

    /** By two SETS the first ELEMENT that carries the one to the other, or NONE; counts HOLDS. */
    private static int[][] carriers(int n, int[][] all, int[] holds) {
        int[][] first = new int[1 << n][1 << n];
        for (int[] row : first) {
            Arrays.fill(row, Due.NONE);
        }
        for (int[] move : all) {
            for (int set = 0; set < 1 << n; set++) {
                int to = Model.carry(set, move);
                if (first[set][to] == Due.NONE) {
                    first[set][to] = Model.code(move);
                }
                holds[set] += set == to ? 1 : 0;
            }
        }
        return first;
    }

    private static List<Integer> setsInOrder(int n) {
        List<Integer> sets = new ArrayList<>();
        for (int set = 0; set < 1 << n; set++) {
            sets.add(set);
        }
        sets.sort(Model::compare);
        return sets;
    }

    private static List<Integer> asksImages(CarriedSets x, int set, int[][] carriers, String where) {
        List<Integer> images = new ArrayList<>();
        for (int to : setsInOrder(x.told(4))) {
            if (Integer.bitCount(to) == Integer.bitCount(set)) {
                DUE.is("carrier(" + set + ", " + to + ")" + where, x.carrier(set, to), carriers[set][to]);
                if (carriers[set][to] != Due.NONE) {
                    images.add(to);
                }
            }
        }
        DUE.is("least(" + set + ")" + where, x.least(set), images.get(0));
        DUE.is("images(" + set + ", NONE)" + where, x.images(set, Due.NONE), images.size());
        for (int i = 0; i < images.size(); i++) {
            DUE.is("images(" + set + ", " + i + ")" + where, x.images(set, i), images.get(i));
        }
        DUE.is("images(" + set + "), one more" + where, x.images(set, images.size()), Due.NOT_SO_MANY);
        return images;
    }

    private static void asksHeads(CarriedSets x, List<List<Integer>> heads, String where) {
        for (int size = 0; size < heads.size(); size++) {
            List<Integer> due = heads.get(size);
            DUE.is("heads(" + size + ", NONE)" + where, x.heads(size, Due.NONE), due.size());
            for (int i = 0; i < due.size(); i++) {
                DUE.is("heads(" + size + ", " + i + ")" + where, x.heads(size, i), due.get(i));
            }
            DUE.is("heads(" + size + "), one more" + where, x.heads(size, due.size()), Due.NOT_SO_MANY);
        }
    }
}
