import java.util.ArrayDeque;
import java.util.ArrayList;
import java.util.Arrays;
import java.util.HashMap;
import java.util.List;
import java.util.Map;
import java.util.TreeSet;

/** The document word by word, going through all ELEMENTS: slow, plain, for comparing with. */
final class Model {
    private static final Map<String, int[][]> KNOWN = new HashMap<>();
    private static final Map<String, List<List<Integer>>> KNOWN_HEADS = new HashMap<>();
    int n = 5;
    List<Integer> generators = new ArrayList<>();
    ArrayDeque<Side> states = new ArrayDeque<>();
    StringBuilder text = new StringBuilder();
    int bad, no, full;

    int bad() { bad++; return -2; }
    int no() { no++; return -3; }
    int full() { full++; return -4; }

    /** The figures of a MOVE's number, or null. */
    static int[] figures(int code, int n) {
        if (code < 0) return null;
        StringBuilder told = new StringBuilder(Integer.toString(code));
        while (told.length() < n) told.insert(0, '0');
        if (told.length() != n) return null;
        int[] row = new int[n];
        TreeSet<Integer> seen = new TreeSet<>();
        for (int p = 0; p < n; p++) {
            row[p] = told.charAt(p) - '0';
            if (row[p] >= n || !seen.add(row[p])) return null;
        }
        return row;
    }

    static int code(int[] row) {
        int code = 0;
        for (int q : row) code = code * 10 + q;
        return code;
    }

    static int[] product(int[] first, int[] second) {
        int[] row = new int[first.length];
        for (int p = 0; p < row.length; p++) row[p] = second[first[p]];
        return row;
    }

    /** All ELEMENTS, by their numbers rising. */
    int[][] all() {
        return KNOWN.computeIfAbsent(n + " " + generators, key -> {
            TreeSet<Integer> codes = new TreeSet<>();
            ArrayDeque<int[]> open = new ArrayDeque<>();
            int[] stay = new int[n];
            for (int p = 0; p < n; p++) stay[p] = p;
            codes.add(code(stay));
            open.add(stay);
            while (!open.isEmpty()) {
                int[] move = open.poll();
                for (int g : generators) {
                    int[] next = product(move, figures(g, n));
                    if (codes.add(code(next))) open.add(next);
                }
            }
            int[][] rows = new int[codes.size()][];
            int k = 0;
            for (int c : codes) rows[k++] = figures(c, n);
            return rows;
        });
    }

    static int carry(int set, int[] move) {
        int to = 0;
        for (int p = 0; p < move.length; p++) if ((set & 1 << p) != 0) to |= 1 << move[p];
        return to;
    }

    /** The document's order of SETS of like size. */
    static int compare(int a, int b) {
        for (int p = 0; p < 8; p++) {
            boolean inA = (a & 1 << p) != 0;
            boolean inB = (b & 1 << p) != 0;
            if (inA != inB) return inA ? -1 : 1;
        }
        return 0;
    }

    List<Integer> imagesOf(int set) {
        boolean[] seen = new boolean[256];
        List<Integer> found = new ArrayList<>();
        for (int[] move : all()) {
            int to = carry(set, move);
            if (!seen[to]) {
                seen[to] = true;
                found.add(to);
            }
        }
        found.sort(Model::compare);
        return found;
    }

    List<Integer> headsOf(int size) {
        return KNOWN_HEADS.computeIfAbsent(n + " " + generators, key -> {
            List<List<Integer>> sizes = new ArrayList<>();
            for (int k = 0; k <= n; k++) sizes.add(new ArrayList<>());
            for (int set = 0; set < 1 << n; set++) {
                if (imagesOf(set).get(0) == set) sizes.get(Integer.bitCount(set)).add(set);
            }
            for (List<Integer> sets : sizes) sets.sort(Model::compare);
            return sizes;
        }).get(size);
    }

    boolean isSet(int set) { return set >= 0 && set <= (1 << n) - 1; }

    void keep() {
        states.addLast(new Side(n, generators));
        if (states.size() > 5) states.removeFirst();
    }

    int points(int k) {
        if (k < 1 || k > 8) return bad();
        keep();
        int before = n;
        n = k;
        generators.clear();
        return before;
    }

    int moves(int code) {
        if (figures(code, n) == null) return bad();
        if (generators.size() == 3) return full();
        keep();
        generators.add(code);
        return generators.size() - 1;
    }

    int drops(int i) {
        if (i < 0 || i >= generators.size()) return bad();
        keep();
        generators.remove(i);
        return generators.size();
    }

    int of(int p, int what) {
        if (p < 0 || p >= n || what < 0 || what > 2) return bad();
        int orbit = 0;
        int chain = 0;
        for (int[] move : all()) {
            orbit |= 1 << move[p];
            boolean leaves = true;
            for (int q = 0; q < p; q++) leaves &= move[q] == q;
            if (leaves) chain |= 1 << move[p];
        }
        return what == 0 ? orbit : what == 1 ? chain : Integer.numberOfTrailingZeros(orbit);
    }

    int number(int code) {
        int[] move = figures(code, n);
        if (move == null) return bad();
        int[][] all = all();
        for (int k = 0; k < all.length; k++) if (Arrays.equals(all[k], move)) return k;
        return -1;
    }

    int element(int k) {
        if (k < 0) return bad();
        return k >= all().length ? no() : code(all()[k]);
    }

    int image(int set, int code) {
        int[] move = figures(code, n);
        return !isSet(set) || move == null ? bad() : carry(set, move);
    }

    int least(int set) { return isSet(set) ? imagesOf(set).get(0) : bad(); }

    int nth(List<Integer> sets, int i) {
        return i == -1 ? sets.size() : i < sets.size() ? sets.get(i) : -5;
    }

    int images(int set, int i) { return !isSet(set) || i < -1 ? bad() : nth(imagesOf(set), i); }

    int carrier(int set, int to) {
        if (!isSet(set) || !isSet(to) || Integer.bitCount(set) != Integer.bitCount(to)) return bad();
        for (int[] move : all()) if (carry(set, move) == to) return code(move);
        return -1;
    }

    int holds(int set) {
        if (!isSet(set)) return bad();
        int count = 0;
        for (int[] move : all()) if (carry(set, move) == set) count++;
        return count;
    }

    int heads(int size, int i) { return size < 0 || size > n || i < -1 ? bad() : nth(headsOf(size), i); }

    int head(int set) {
        return isSet(set) ? headsOf(Integer.bitCount(set)).indexOf(imagesOf(set).get(0)) : bad();
    }

    int type(int c) {
        if (c < 0 || c > 127) return bad();
        if (text.length() == 80) return full();
        text.append((char) c);
        return text.length();
    }

    int clear() {
        int before = text.length();
        text = new StringBuilder();
        return before;
    }

    /** The first FAULT, or -1; the ORDERS that are whole go to the list, a letter ahead of each. */
    int fault(List<String> orders) {
        List<Integer> places = new ArrayList<>();
        for (int i = 0; i < text.length(); i++) if (text.charAt(i) != ' ') places.add(i);
        int points = n;
        int k = 0;
        while (k < places.size()) {
            char letter = text.charAt(places.get(k));
            if ("nmx".indexOf(letter) < 0) return places.get(k);
            int many = letter == 'm' ? points : 1;
            String allowed = letter == 'n' ? "12345678" : letter == 'x' ? "0123456789" : "01234567".substring(0, points);
            StringBuilder order = new StringBuilder().append(letter);
            for (int f = 1; f <= many; f++) {
                if (k + f >= places.size()) return text.length();
                char c = text.charAt(places.get(k + f));
                if (allowed.indexOf(c) < 0) return places.get(k + f);
                if (order.indexOf("" + c) >= 0) return places.get(k + f);
                order.append(c);
            }
            k += many + 1;
            if (k >= places.size()) return text.length();
            if (text.charAt(places.get(k)) != ';') return places.get(k);
            k++;
            orders.add(order.toString());
            if (letter == 'n') points = order.charAt(1) - '0';
        }
        return orders.isEmpty() ? text.length() : -1;
    }

    int reads() {
        List<String> orders = new ArrayList<>();
        int fault = fault(orders);
        if (fault >= 0) return -10 - fault;
        Model trial = new Model();
        trial.n = n;
        trial.generators = new ArrayList<>(generators);
        for (int k = 0; k < orders.size(); k++) {
            int value = Integer.parseInt(orders.get(k).substring(1));
            char letter = orders.get(k).charAt(0);
            int answer = letter == 'n' ? trial.points(value) : letter == 'm' ? trial.moves(value) : trial.drops(value);
            if (answer < 0) return -1000 - k;
        }
        keep();
        n = trial.n;
        generators = trial.generators;
        return orders.size();
    }

    int back() {
        if (states.isEmpty()) return no();
        Side side = states.removeLast();
        n = side.n;
        generators = new ArrayList<>(side.generators);
        return states.size();
    }

    int told(int what) {
        if (what < 0 || what > 6) return bad();
        return new int[] {bad, no, full, text.length(), n, generators.size(), states.size()}[what];
    }

    long digest() {
        List<Integer> values = new ArrayList<>();
        for (int what = 0; what <= 6; what++) values.add(told(what));
        values.addAll(generators);
        values.add(all().length);
        for (int p = 0; p < n; p++) for (int what = 0; what <= 2; what++) values.add(of(p, what));
        for (int size = 0; size <= n; size++) {
            values.add(headsOf(size).size());
            values.addAll(headsOf(size));
        }
        long h = 2477;
        for (int v : values) h = 31 * h + v;
        return h;
    }

    /** N and the GENERATORS, as their numbers. */
    private static final class Side {
        final int n;
        final List<Integer> generators;

        Side(int n, List<Integer> generators) {
            this.n = n;
            this.generators = new ArrayList<>(generators);
        }
    }
}
