import java.util.Arrays;
import java.util.Random;

/**
 * Runs of calls, drawn by a fixed seed, on the class and on a plain model that goes through all
 * ELEMENTS; each answer, and the digest now and then, must be the same.
 */
public final class ModelTest {
    private static final int RUNS = 700;
    private static final int CALLS = 512;

    public static void main(String[] args) {
        long calls = 0;
        for (int run = 0; run < RUNS; run++) {
            Driver driver = new Driver(run);
            calls += driver.go(CALLS);
            if (driver.wrong != null) {
                System.out.println("run " + run + ": " + driver.wrong);
                System.exit(1);
            }
        }
        String wanting = Driver.answersNotSeen();
        if (!wanting.isEmpty()) {
            System.out.println("the runs never came to: " + wanting);
            System.exit(1);
        }
        System.out.println("ModelTest: " + calls + " answers as the model's");
    }

    private static final class Driver {
        private static final String[] NAMES = {
            "points", "moves", "drops", "order", "of", "number", "element", "image", "least", "images",
            "carrier", "holds", "heads", "head", "type", "clear", "reads", "back", "told", "digest"};
        /** By call: whether it answered BAD, NO, FULL, NONE, -5, a FAULT, a stop, 0 or more. */
        private static final boolean[][] SEEN = new boolean[NAMES.length][8];
        private final Random random;
        private final CarriedSets x = new CarriedSets();
        private final Model model = new Model();
        private final int most;
        private int calls = 0;
        String wrong = null;

        Driver(int run) {
            random = new Random(run);
            most = run % 10 == 0 ? 8 : run % 5 == 0 ? 7 : 6;
        }

        int go(int limit) {
            while (calls < limit && wrong == null) {
                act();
            }
            return calls;
        }

        private void act() {
            int kind = random.nextInt(100);
            if (kind < 4) check("points", random.nextInt(12) == 0 ? odd() : 1 + random.nextInt(most), 0);
            else if (kind < 14) check("moves", someCode(), 0);
            else if (kind < 17) check("drops", random.nextInt(5) - 1, 0);
            else if (kind < 20) check("order", 0, 0);
            else if (kind < 26) check("of", random.nextInt(model.n + 2) - 1, random.nextInt(12) == 0 ? odd() : random.nextInt(3));
            else if (kind < 32) check("number", random.nextBoolean() ? element() : someCode(), 0);
            else if (kind < 38) check("element", someIndex(model.all().length), 0);
            else if (kind < 43) check("image", someSet(), someCode());
            else if (kind < 48) check("least", someSet(), 0);
            else if (kind < 54) check("images", someSet(), random.nextInt(3) == 0 ? -1 : someIndex(8));
            else if (kind < 63) checkCarrier();
            else if (kind < 68) check("holds", someSet(), 0);
            else if (kind < 75) check("heads", random.nextInt(model.n + 3) - 1, random.nextInt(3) == 0 ? -1 : someIndex(8));
            else if (kind < 80) check("head", someSet(), 0);
            else if (kind < 84) checkText();
            else if (kind < 86) check("type", random.nextInt(6) == 0 ? odd() : random.nextInt(128), 0);
            else if (kind < 90) check("back", 0, 0);
            else if (kind < 95) check("told", random.nextInt(10) - 1, 0);
            else check("digest", 0, 0);
        }

        private int odd() {
            int[] odd = {-1, 0, 9, 128, 127, -128, 256, Integer.MAX_VALUE, Integer.MIN_VALUE, -2, 1 << 8};
            return odd[random.nextInt(odd.length)];
        }

        private int element() {
            int[][] all = model.all();
            return Model.code(all[random.nextInt(all.length)]);
        }

        private int shuffled(int n) {
            int[] row = new int[n];
            for (int p = 0; p < n; p++) row[p] = p;
            int swaps = random.nextInt(2) == 0 ? 1 + random.nextInt(2) : n;
            for (int k = 0; k < swaps; k++) {
                int a = random.nextInt(n);
                int b = random.nextInt(n);
                int held = row[a];
                row[a] = row[b];
                row[b] = held;
            }
            return Model.code(row);
        }

        private int someCode() {
            int kind = random.nextInt(24);
            if (kind == 0) return odd();
            if (kind == 1) return shuffled(1 + random.nextInt(8));
            if (kind == 2) return -shuffled(model.n);
            if (kind == 3) return shuffled(model.n) + (int) Math.pow(10, model.n);
            if (kind == 4) return shuffled(model.n) + (int) Math.pow(10, random.nextInt(model.n));
            return shuffled(model.n);
        }

        private int someIndex(int size) {
            int kind = random.nextInt(12);
            if (kind == 0) return odd();
            if (kind == 1) return size;
            if (kind == 2) return size - 1;
            return random.nextInt(size);
        }

        private int someSet() {
            int kind = random.nextInt(24);
            if (kind == 0) return odd();
            if (kind == 1) return 1 << model.n;
            if (kind == 2) return (1 << model.n) - 1;
            return random.nextInt(1 << model.n);
        }

        private void checkCarrier() {
            int set = someSet();
            int kind = random.nextInt(8);
            if (kind == 0 || !model.isSet(set)) check("carrier", set, someSet());
            else if (kind <= 2) check("carrier", set, Model.carry(set, Model.figures(shuffled(model.n), model.n)));
            else check("carrier", set, Model.carry(set, Model.figures(element(), model.n)));
        }

        private String blanks() {
            return random.nextInt(8) == 0 ? "  ".substring(random.nextInt(2)) : "";
        }

        private String someText() {
            StringBuilder text = new StringBuilder();
            int n = model.n;
            int count = model.generators.size();
            int orders = random.nextInt(5);
            for (int k = 0; k < orders; k++) {
                int kind = random.nextInt(7);
                if (kind == 0) {
                    n = 1 + random.nextInt(most);
                    count = 0;
                    text.append('n').append(blanks()).append(n);
                } else if (kind <= 4) {
                    String code = Integer.toString(shuffled(n));
                    text.append('m');
                    for (int z = code.length(); z < n; z++) text.append(blanks()).append('0');
                    for (char c : code.toCharArray()) text.append(blanks()).append(c);
                    count++;
                } else {
                    text.append('x').append(blanks()).append(count == 0 ? random.nextInt(10) : random.nextInt(count + (random.nextInt(3) == 0 ? 1 : 0)));
                    count = Math.max(0, count - 1);
                }
                text.append(blanks()).append(';').append(blanks());
            }
            if (random.nextInt(3) == 0 && text.length() > 0) spoil(text);
            return text.toString();
        }

        private void spoil(StringBuilder text) {
            int place = random.nextInt(text.length());
            String signs = "nmx;0123456789 q\t:/";
            char c = signs.charAt(random.nextInt(signs.length()));
            int kind = random.nextInt(4);
            if (kind == 0) text.setLength(place);
            else if (kind == 1) text.deleteCharAt(place);
            else if (kind == 2) text.setCharAt(place, c);
            else text.insert(place, c);
        }

        private void checkText() {
            if (random.nextInt(8) != 0) check("clear", 0, 0);
            for (char c : someText().toCharArray()) check("type", c, 0);
            check("reads", 0, 0);
            if (random.nextInt(4) == 0) check("reads", 0, 0);
        }

        private void check(String name, int a, int b) {
            if (wrong != null) return;
            calls++;
            long due = ask(model, name, a, b);
            long got = ask(x, name, a, b);
            note(name, due);
            if (got != due) {
                wrong = "call " + calls + ", " + name + "(" + a + ", " + b + "), answered " + got + ", due is " + due
                    + "; N " + model.n + ", generators " + model.generators + ", text '" + model.text + "'";
            }
        }

        private static void note(String name, long answer) {
            int kind = answer >= 0 ? 7 : answer == -2 ? 0 : answer == -3 ? 1 : answer == -4 ? 2 : answer == -1 ? 3
                : answer == -5 ? 4 : answer > -1000 ? 5 : 6;
            if (name.equals("digest")) kind = 7;
            SEEN[Arrays.asList(NAMES).indexOf(name)][kind] = true;
        }

        /** Each kind of answer that the document tells must have come up, or the runs say little. */
        static String answersNotSeen() {
            String[] due = {"07", "027", "07", "7", "07", "037", "017", "07", "07", "047", "037", "07", "047", "07",
                "027", "7", "567", "17", "07", "7"};
            StringBuilder wanting = new StringBuilder();
            for (int k = 0; k < NAMES.length; k++) {
                for (char kind : due[k].toCharArray()) {
                    if (!SEEN[k][kind - '0']) wanting.append(' ').append(NAMES[k]).append(':').append(kind);
                }
            }
            return wanting.toString();
        }

        private static long ask(Model m, String name, int a, int b) {
            switch (name) {
                case "points": return m.points(a);
                case "moves": return m.moves(a);
                case "drops": return m.drops(a);
                case "order": return m.all().length;
                case "of": return m.of(a, b);
                case "number": return m.number(a);
                case "element": return m.element(a);
                case "image": return m.image(a, b);
                case "least": return m.least(a);
                case "images": return m.images(a, b);
                case "carrier": return m.carrier(a, b);
                case "holds": return m.holds(a);
                case "heads": return m.heads(a, b);
                case "head": return m.head(a);
                case "type": return m.type(a);
                case "clear": return m.clear();
                case "reads": return m.reads();
                case "back": return m.back();
                case "told": return m.told(a);
                default: return m.digest();
            }
        }

        private static long ask(CarriedSets x, String name, int a, int b) {
            switch (name) {
                case "points": return x.points(a);
                case "moves": return x.moves(a);
                case "drops": return x.drops(a);
                case "order": return x.order();
                case "of": return x.of(a, b);
                case "number": return x.number(a);
                case "element": return x.element(a);
                case "image": return x.image(a, b);
                case "least": return x.least(a);
                case "images": return x.images(a, b);
                case "carrier": return x.carrier(a, b);
                case "holds": return x.holds(a);
                case "heads": return x.heads(a, b);
                case "head": return x.head(a);
                case "type": return x.type(a);
                case "clear": return x.clear();
                case "reads": return x.reads();
                case "back": return x.back();
                case "told": return x.told(a);
                default: return x.digest();
            }
        }
    }
}
