import java.util.ArrayDeque;
import java.util.ArrayList;
import java.util.Arrays;
import java.util.HashMap;
import java.util.List;
import java.util.Map;
import java.util.Random;
import java.util.TreeSet;

/**
 * Runs of calls, drawn by a fixed seed, on the class and on a plain model that goes through all
 * ELEMENTS; each answer, and the digest now and then, must be the same.
 */
public final class ModelTest {
    private static final int RUNS = 700;
    private static final int CALLS = 512;

    public static void main(String[] args) {
        long calls = 0;
        for (int run = 0; run < RUNS; run++) {
            Driver driver = new Driver(run);
            calls += driver.go(CALLS);
            if (driver.wrong != null) {
                System.out.println("run " + run + ": " + driver.wrong);
                System.exit(1);
            }
        }
        String wanting = Driver.answersNotSeen();
        if (!wanting.isEmpty()) {
            System.out.println("the runs never came to: " + wanting);
            System.exit(1);
        }
        System.out.println("ModelTest: " + calls + " answers as the model's");
    }

    /** N and the GENERATORS, as their numbers. */
    private static final class Side {
        final int n;
        final List<Integer> generators;

        Side(int n, List<Integer> generators) {
            this.n = n;
            this.generators = new ArrayList<>(generators);
        }
    }

    private static final class Model {
        private static final Map<String, int[][]> KNOWN = new HashMap<>();
        private static final Map<String, List<List<Integer>>> KNOWN_HEADS = new HashMap<>();
        int n = 5;
        List<Integer> generators = new ArrayList<>();
        ArrayDeque<Side> states = new ArrayDeque<>();
        StringBuilder text = new StringBuilder();
        int bad, no, full;

        int bad() { bad++; return -2; }
        int no() { no++; return -3; }
        int full() { full++; return -4; }

        /** The figures of a MOVE's number, or null. */
        static int[] figures(int code, int n) {
            if (code < 0) return null;
            StringBuilder told = new StringBuilder(Integer.toString(code));
            while (told.length() < n) told.insert(0, '0');
            if (told.length() != n) return null;
            int[] row = new int[n];
            TreeSet<Integer> seen = new TreeSet<>();
            for (int p = 0; p < n; p++) {
                row[p] = told.charAt(p) - '0';
                if (row[p] >= n || !seen.add(row[p])) return null;
            }
            return row;
        }

        static int code(int[] row) {
            int code = 0;
            for (int q : row) code = code * 10 + q;
            return code;
        }

        static int[] product(int[] first, int[] second) {
            int[] row = new int[first.length];
            for (int p = 0; p < row.length; p++) row[p] = second[first[p]];
            return row;
        }

        /** All ELEMENTS, by their numbers rising. */
        int[][] all() {
            return KNOWN.computeIfAbsent(n + " " + generators, key -> {
                TreeSet<Integer> codes = new TreeSet<>();
                ArrayDeque<int[]> open = new ArrayDeque<>();
                int[] stay = new int[n];
                for (int p = 0; p < n; p++) stay[p] = p;
                codes.add(code(stay));
                open.add(stay);
                while (!open.isEmpty()) {
                    int[] move = open.poll();
                    for (int g : generators) {
                        int[] next = product(move, figures(g, n));
                        if (codes.add(code(next))) open.add(next);
                    }
                }
                int[][] rows = new int[codes.size()][];
                int k = 0;
                for (int c : codes) rows[k++] = figures(c, n);
                return rows;
            });
        }

        static int carry(int set, int[] move) {
            int to = 0;
            for (int p = 0; p < move.length; p++) if ((set & 1 << p) != 0) to |= 1 << move[p];
            return to;
        }

        /** The document's order of SETS of like size. */
        static int compare(int a, int b) {
            for (int p = 0; p < 8; p++) {
                boolean inA = (a & 1 << p) != 0;
                boolean inB = (b & 1 << p) != 0;
                if (inA != inB) return inA ? -1 : 1;
            }
            return 0;
        }

        List<Integer> imagesOf(int set) {
            boolean[] seen = new boolean[256];
            List<Integer> found = new ArrayList<>();
            for (int[] move : all()) {
                int to = carry(set, move);
                if (!seen[to]) {
                    seen[to] = true;
                    found.add(to);
                }
            }
            found.sort(Model::compare);
            return found;
        }

        List<Integer> headsOf(int size) {
            return KNOWN_HEADS.computeIfAbsent(n + " " + generators, key -> {
                List<List<Integer>> sizes = new ArrayList<>();
                for (int k = 0; k <= n; k++) sizes.add(new ArrayList<>());
                for (int set = 0; set < 1 << n; set++) {
                    if (imagesOf(set).get(0) == set) sizes.get(Integer.bitCount(set)).add(set);
                }
                for (List<Integer> sets : sizes) sets.sort(Model::compare);
                return sizes;
            }).get(size);
        }

        boolean isSet(int set) { return set >= 0 && set <= (1 << n) - 1; }

        void keep() {
            states.addLast(new Side(n, generators));
            if (states.size() > 5) states.removeFirst();
        }

        int points(int k) {
            if (k < 1 || k > 8) return bad();
            keep();
            int before = n;
            n = k;
            generators.clear();
            return before;
        }

        int moves(int code) {
            if (figures(code, n) == null) return bad();
            if (generators.size() == 3) return full();
            keep();
            generators.add(code);
            return generators.size() - 1;
        }

        int drops(int i) {
            if (i < 0 || i >= generators.size()) return bad();
            keep();
            generators.remove(i);
            return generators.size();
        }

        int of(int p, int what) {
            if (p < 0 || p >= n || what < 0 || what > 2) return bad();
            int orbit = 0;
            int chain = 0;
            for (int[] move : all()) {
                orbit |= 1 << move[p];
                boolean leaves = true;
                for (int q = 0; q < p; q++) leaves &= move[q] == q;
                if (leaves) chain |= 1 << move[p];
            }
            return what == 0 ? orbit : what == 1 ? chain : Integer.numberOfTrailingZeros(orbit);
        }

        int number(int code) {
            int[] move = figures(code, n);
            if (move == null) return bad();
            int[][] all = all();
            for (int k = 0; k < all.length; k++) if (Arrays.equals(all[k], move)) return k;
            return -1;
        }

        int element(int k) {
            if (k < 0) return bad();
            return k >= all().length ? no() : code(all()[k]);
        }

        int image(int set, int code) {
            int[] move = figures(code, n);
            return !isSet(set) || move == null ? bad() : carry(set, move);
        }

        int least(int set) { return isSet(set) ? imagesOf(set).get(0) : bad(); }

        int nth(List<Integer> sets, int i) {
            return i == -1 ? sets.size() : i < sets.size() ? sets.get(i) : -5;
        }

        int images(int set, int i) { return !isSet(set) || i < -1 ? bad() : nth(imagesOf(set), i); }

        int carrier(int set, int to) {
            if (!isSet(set) || !isSet(to) || Integer.bitCount(set) != Integer.bitCount(to)) return bad();
            for (int[] move : all()) if (carry(set, move) == to) return code(move);
            return -1;
        }

        int holds(int set) {
            if (!isSet(set)) return bad();
            int count = 0;
            for (int[] move : all()) if (carry(set, move) == set) count++;
            return count;
        }

        int heads(int size, int i) { return size < 0 || size > n || i < -1 ? bad() : nth(headsOf(size), i); }

        int head(int set) {
            return isSet(set) ? headsOf(Integer.bitCount(set)).indexOf(imagesOf(set).get(0)) : bad();
        }

        int type(int c) {
            if (c < 0 || c > 127) return bad();
            if (text.length() == 80) return full();
            text.append((char) c);
            return text.length();
        }

        int clear() {
            int before = text.length();
            text = new StringBuilder();
            return before;
        }

        /** The first FAULT, or -1; the ORDERS that are whole go to the list, a letter ahead of each. */
        int fault(List<String> orders) {
            List<Integer> places = new ArrayList<>();
            for (int i = 0; i < text.length(); i++) if (text.charAt(i) != ' ') places.add(i);
            int points = n;
            int k = 0;
            while (k < places.size()) {
                char letter = text.charAt(places.get(k));
                if ("nmx".indexOf(letter) < 0) return places.get(k);
                int many = letter == 'm' ? points : 1;
                String allowed = letter == 'n' ? "12345678" : letter == 'x' ? "0123456789" : "01234567".substring(0, points);
                StringBuilder order = new StringBuilder().append(letter);
                for (int f = 1; f <= many; f++) {
                    if (k + f >= places.size()) return text.length();
                    char c = text.charAt(places.get(k + f));
                    if (allowed.indexOf(c) < 0) return places.get(k + f);
                    if (order.indexOf("" + c) >= 0) return places.get(k + f);
                    order.append(c);
                }
                k += many + 1;
                if (k >= places.size()) return text.length();
                if (text.charAt(places.get(k)) != ';') return places.get(k);
                k++;
                orders.add(order.toString());
                if (letter == 'n') points = order.charAt(1) - '0';
            }
            return orders.isEmpty() ? text.length() : -1;
        }

        int reads() {
            List<String> orders = new ArrayList<>();
            int fault = fault(orders);
            if (fault >= 0) return -10 - fault;
            Model trial = new Model();
            trial.n = n;
            trial.generators = new ArrayList<>(generators);
            for (int k = 0; k < orders.size(); k++) {
                int value = Integer.parseInt(orders.get(k).substring(1));
                char letter = orders.get(k).charAt(0);
                int answer = letter == 'n' ? trial.points(value) : letter == 'm' ? trial.moves(value) : trial.drops(value);
                if (answer < 0) return -1000 - k;
            }
            keep();
            n = trial.n;
            generators = trial.generators;
            return orders.size();
        }

        int back() {
            if (states.isEmpty()) return no();
            Side side = states.removeLast();
            n = side.n;
            generators = new ArrayList<>(side.generators);
            return states.size();
        }

        int told(int what) {
            if (what < 0 || what > 6) return bad();
            return new int[] {bad, no, full, text.length(), n, generators.size(), states.size()}[what];
        }

        long digest() {
            List<Integer> values = new ArrayList<>();
            for (int what = 0; what <= 6; what++) values.add(told(what));
            values.addAll(generators);
            values.add(all().length);
            for (int p = 0; p < n; p++) for (int what = 0; what <= 2; what++) values.add(of(p, what));
            for (int size = 0; size <= n; size++) {
                values.add(headsOf(size).size());
                values.addAll(headsOf(size));
            }
            long h = 2477;
            for (int v : values) h = 31 * h + v;
            return h;
        }
    }

    private static final class Driver {
        private static final String[] NAMES = {
            "points", "moves", "drops", "order", "of", "number", "element", "image", "least", "images",
            "carrier", "holds", "heads", "head", "type", "clear", "reads", "back", "told", "digest"};
        /** By call: whether it answered BAD, NO, FULL, NONE, -5, a FAULT, a stop, 0 or more. */
        private static final boolean[][] SEEN = new boolean[NAMES.length][8];
        private final Random random;
        private final CarriedSets x = new CarriedSets();
        private final Model model = new Model();
        private final int most;
        private int calls = 0;
        String wrong = null;

        Driver(int run) {
            random = new Random(run);
            most = run % 10 == 0 ? 8 : run % 5 == 0 ? 7 : 6;
        }

        int go(int limit) {
            while (calls < limit && wrong == null) {
                act();
            }
            return calls;
        }

        private void act() {
            int kind = random.nextInt(100);
            if (kind < 4) check("points", random.nextInt(12) == 0 ? odd() : 1 + random.nextInt(most), 0);
            else if (kind < 14) check("moves", someCode(), 0);
            else if (kind < 17) check("drops", random.nextInt(5) - 1, 0);
            else if (kind < 20) check("order", 0, 0);
            else if (kind < 26) check("of", random.nextInt(model.n + 2) - 1, random.nextInt(12) == 0 ? odd() : random.nextInt(3));
            else if (kind < 32) check("number", random.nextBoolean() ? element() : someCode(), 0);
            else if (kind < 38) check("element", someIndex(model.all().length), 0);
            else if (kind < 43) check("image", someSet(), someCode());
            else if (kind < 48) check("least", someSet(), 0);
            else if (kind < 54) check("images", someSet(), random.nextInt(3) == 0 ? -1 : someIndex(8));
            else if (kind < 63) checkCarrier();
            else if (kind < 68) check("holds", someSet(), 0);
            else if (kind < 75) check("heads", random.nextInt(model.n + 3) - 1, random.nextInt(3) == 0 ? -1 : someIndex(8));
            else if (kind < 80) check("head", someSet(), 0);
            else if (kind < 84) checkText();
            else if (kind < 86) check("type", random.nextInt(6) == 0 ? odd() : random.nextInt(128), 0);
            else if (kind < 90) check("back", 0, 0);
            else if (kind < 95) check("told", random.nextInt(10) - 1, 0);
            else check("digest", 0, 0);
        }

        private int odd() {
            int[] odd = {-1, 0, 9, 128, 127, -128, 256, Integer.MAX_VALUE, Integer.MIN_VALUE, -2, 1 << 8};
            return odd[random.nextInt(odd.length)];
        }

        private int element() {
            int[][] all = model.all();
            return Model.code(all[random.nextInt(all.length)]);
        }

        private int shuffled(int n) {
            int[] row = new int[n];
            for (int p = 0; p < n; p++) row[p] = p;
            int swaps = random.nextInt(2) == 0 ? 1 + random.nextInt(2) : n;
            for (int k = 0; k < swaps; k++) {
                int a = random.nextInt(n);
                int b = random.nextInt(n);
                int held = row[a];
                row[a] = row[b];
                row[b] = held;
            }
            return Model.code(row);
        }

        private int someCode() {
            int kind = random.nextInt(24);
            if (kind == 0) return odd();
            if (kind == 1) return shuffled(1 + random.nextInt(8));
            if (kind == 2) return -shuffled(model.n);
            if (kind == 3) return shuffled(model.n) + (int) Math.pow(10, model.n);
            if (kind == 4) return shuffled(model.n) + (int) Math.pow(10, random.nextInt(model.n));
            return shuffled(model.n);
        }

        private int someIndex(int size) {
            int kind = random.nextInt(12);
            if (kind == 0) return odd();
            if (kind == 1) return size;
            if (kind == 2) return size - 1;
            return random.nextInt(size);
        }

        private int someSet() {
            int kind = random.nextInt(24);
            if (kind == 0) return odd();
            if (kind == 1) return 1 << model.n;
            if (kind == 2) return (1 << model.n) - 1;
            return random.nextInt(1 << model.n);
        }

        private void checkCarrier() {
            int set = someSet();
            int kind = random.nextInt(8);
            if (kind == 0 || !model.isSet(set)) check("carrier", set, someSet());
            else if (kind <= 2) check("carrier", set, Model.carry(set, Model.figures(shuffled(model.n), model.n)));
            else check("carrier", set, Model.carry(set, Model.figures(element(), model.n)));
        }

        private String blanks() {
            return random.nextInt(8) == 0 ? "  ".substring(random.nextInt(2)) : "";
        }

        private String someText() {
            StringBuilder text = new StringBuilder();
            int n = model.n;
            int count = model.generators.size();
            int orders = random.nextInt(5);
            for (int k = 0; k < orders; k++) {
                int kind = random.nextInt(7);
                if (kind == 0) {
                    n = 1 + random.nextInt(most);
                    count = 0;
                    text.append('n').append(blanks()).append(n);
                } else if (kind <= 4) {
                    String code = Integer.toString(shuffled(n));
                    text.append('m');
                    for (int z = code.length(); z < n; z++) text.append(blanks()).append('0');
                    for (char c : code.toCharArray()) text.append(blanks()).append(c);
                    count++;
                } else {
                    text.append('x').append(blanks()).append(count == 0 ? random.nextInt(10) : random.nextInt(count + (random.nextInt(3) == 0 ? 1 : 0)));
                    count = Math.max(0, count - 1);
                }
                text.append(blanks()).append(';').append(blanks());
            }
            if (random.nextInt(3) == 0 && text.length() > 0) spoil(text);
            return text.toString();
        }

        private void spoil(StringBuilder text) {
            int place = random.nextInt(text.length());
            String signs = "nmx;0123456789 q\t:/";
            char c = signs.charAt(random.nextInt(signs.length()));
            int kind = random.nextInt(4);
            if (kind == 0) text.setLength(place);
            else if (kind == 1) text.deleteCharAt(place);
            else if (kind == 2) text.setCharAt(place, c);
            else text.insert(place, c);
        }

        private void checkText() {
            if (random.nextInt(8) != 0) check("clear", 0, 0);
            for (char c : someText().toCharArray()) check("type", c, 0);
            check("reads", 0, 0);
            if (random.nextInt(4) == 0) check("reads", 0, 0);
        }

        private void check(String name, int a, int b) {
            if (wrong != null) return;
            calls++;
            long due = ask(model, name, a, b);
            long got = ask(x, name, a, b);
            note(name, due);
            if (got != due) {
                wrong = "call " + calls + ", " + name + "(" + a + ", " + b + "), answered " + got + ", due is " + due
                    + "; N " + model.n + ", generators " + model.generators + ", text '" + model.text + "'";
            }
        }

        private static void note(String name, long answer) {
            int kind = answer >= 0 ? 7 : answer == -2 ? 0 : answer == -3 ? 1 : answer == -4 ? 2 : answer == -1 ? 3
                : answer == -5 ? 4 : answer > -1000 ? 5 : 6;
            if (name.equals("digest")) kind = 7;
            SEEN[Arrays.asList(NAMES).indexOf(name)][kind] = true;
        }

        /** Each kind of answer that the document tells must have come up, or the runs say little. */
        static String answersNotSeen() {
            String[] due = {"07", "027", "07", "7", "07", "037", "017", "07", "07", "047", "037", "07", "047", "07",
                "027", "7", "567", "17", "07", "7"};
            StringBuilder wanting = new StringBuilder();
            for (int k = 0; k < NAMES.length; k++) {
                for (char kind : due[k].toCharArray()) {
                    if (!SEEN[k][kind - '0']) wanting.append(' ').append(NAMES[k]).append(':').append(kind);
                }
            }
            return wanting.toString();
        }

        private static long ask(Model m, String name, int a, int b) {
            switch (name) {
                case "points": return m.points(a);
                case "moves": return m.moves(a);
                case "drops": return m.drops(a);
                case "order": return m.all().length;
                case "of": return m.of(a, b);
                case "number": return m.number(a);
                case "element": return m.element(a);
                case "image": return m.image(a, b);
                case "least": return m.least(a);
                case "images": return m.images(a, b);
                case "carrier": return m.carrier(a, b);
                case "holds": return m.holds(a);
                case "heads": return m.heads(a, b);
                case "head": return m.head(a);
                case "type": return m.type(a);
                case "clear": return m.clear();
                case "reads": return m.reads();
                case "back": return m.back();
                case "told": return m.told(a);
                default: return m.digest();
            }
        }

        private static long ask(CarriedSets x, String name, int a, int b) {
            switch (name) {
                case "points": return x.points(a);
                case "moves": return x.moves(a);
                case "drops": return x.drops(a);
                case "order": return x.order();
                case "of": return x.of(a, b);
                case "number": return x.number(a);
                case "element": return x.element(a);
                case "image": return x.image(a, b);
                case "least": return x.least(a);
                case "images": return x.images(a, b);
                case "carrier": return x.carrier(a, b);
                case "holds": return x.holds(a);
                case "heads": return x.heads(a, b);
                case "head": return x.head(a);
                case "type": return x.type(a);
                case "clear": return x.clear();
                case "reads": return x.reads();
                case "back": return x.back();
                case "told": return x.told(a);
                default: return x.digest();
            }
        }
    }
}
