import java.util.ArrayList;
import java.util.List;
import java.util.TreeMap;

/**
 * Long mixed runs, each call answered by the class and by a plain model that builds the whole
 * image anew for every question. The runs are the same each time: their numbers come from a
 * fixed row, not from a random source.
 */
public final class ModelTest {
    private static final int RUNS = 4000;
    // With the undefines and values at a run's end these are 512: what later calls answer is free.
    private static final int CALLS = 404;
    private static final int LIMIT_OF_REPORTS = 20;
    private static final int[] EXTREMES = {Integer.MIN_VALUE, Integer.MAX_VALUE, -1000000, 1000000, -5, 60};

    private static long row;
    private static int wrong = 0;

    private static int below(int bound) {
        row = row * 6364136223846793005L + 1442695040888963407L;
        return (int) ((row >>> 33) % bound);
    }

    public static void main(String[] args) {
        for (int run = 0; run < RUNS && wrong < LIMIT_OF_REPORTS; run++) {
            row = 977L * run + 1;
            oneRun(run);
        }
        System.out.println(wrong == 0 ? "all answers are as due" : wrong + " answers are not as due");
        if (wrong != 0) {
            System.exit(1);
        }
    }

    private static void oneRun(int run) {
        IncrementalLinker x = new IncrementalLinker();
        Model model = new Model();
        // Some runs stay in few modules, so that these fill up and names are defined twice.
        int modules = 1 + run % 6;
        int names = 1 + run % 10;
        for (int call = 0; call < CALLS && wrong < LIMIT_OF_REPORTS; call++) {
            oneCall(run, x, model, modules, names);
        }
        for (int m = 0; m < 6; m++) {
            for (int name = 0; name < 10; name++) {
                due(run, "undefine(" + m + ", " + name + ")", x.undefine(m, name), model.undefine(m, name));
            }
        }
        for (int place = 0; place < 48; place++) {
            due(run, "value(" + place + ")", x.value(place), model.value(place));
        }
    }

    private static void due(int run, String call, int got, int want) {
        if (got != want) {
            wrong++;
            System.out.println("run " + run + ": " + call + " answered " + got + ", due is " + want);
        }
    }

    /** Mostly a number from 0 on below the bound, now and then the one beside the range or far out. */
    private static int mostlyBelow(int bound, int edge) {
        int kind = below(40);
        if (kind == 0) {
            return EXTREMES[below(EXTREMES.length)];
        }
        if (kind == 1) {
            return -1;
        }
        return kind == 2 ? edge : below(bound);
    }

    private static int addend() {
        int kind = below(10);
        if (kind == 0) {
            return new int[] {-101, -100, 100, 101}[below(4)];
        }
        return kind == 1 ? EXTREMES[below(EXTREMES.length)] : below(201) - 100;
    }

    private static int number() {
        int kind = below(4);
        return kind == 0 ? EXTREMES[below(EXTREMES.length)] : below(2001) - 1000;
    }

    private static void oneCall(int run, IncrementalLinker x, Model model, int modules, int names) {
        int m = mostlyBelow(modules, 6);
        int name = mostlyBelow(names, 10);
        int w = mostlyBelow(9, 9);
        int v = number();
        int a = addend();
        int place = mostlyBelow(8 * modules + 1, 48);
        String given = " with m " + m + ", name " + name + ", w " + w + ", v " + v + ", addend " + a + ", place " + place;
        switch (below(25)) {
            case 0, 1 -> due(run, "constant" + given, x.constant(m, v), model.constant(m, v));
            case 2, 3, 4 -> due(run, "reference" + given, x.reference(m, name, a), model.reference(m, name, a));
            case 5 -> due(run, "patch" + given, x.patch(m, w, v), model.patch(m, w, v));
            case 6, 7 -> due(run, "insert" + given, x.insert(m, w, v), model.insert(m, w, v));
            case 8, 9 -> due(run, "delete" + given, x.delete(m, w), model.delete(m, w));
            case 10 -> {
                // Rarely, or no module would ever fill up.
                if (below(4) == 0) {
                    due(run, "unload" + given, x.unload(m), model.unload(m));
                }
            }
            case 11, 12, 13 -> due(run, "define" + given, x.define(m, name, w), model.define(m, name, w));
            case 14 -> due(run, "undefine" + given, x.undefine(m, name), model.undefine(m, name));
            case 15 -> due(run, "size", x.size(), model.size());
            case 16 -> due(run, "value" + given, x.value(place), model.value(place));
            case 17 -> due(run, "address" + given, x.address(m), model.address(m));
            case 18 -> due(run, "where" + given, x.where(name), model.where(name));
            case 19 -> due(run, "undefined", x.undefined(), model.undefined());
            case 20 -> due(run, "idle", x.idle(), model.idle());
            case 21 -> due(run, "uses" + given, x.uses(name), model.uses(name));
            case 22 -> due(run, "users" + given, x.users(m), model.users(m));
            case 23 -> due(run, "moduleOf" + given, x.moduleOf(place), model.moduleOf(place));
            default -> due(run, "digest", x.digest(), model.digest());
        }
    }

    private record Word(boolean isReference, int name, int number) { }

    private record Placed(int module, Word word) { }

    private static final class Model {
        private final List<List<Word>> words = new ArrayList<>();
        private final List<TreeMap<Integer, Integer>> definitions = new ArrayList<>();

        Model() {
            for (int m = 0; m < 6; m++) {
                words.add(new ArrayList<>());
                definitions.add(new TreeMap<>());
            }
        }

        private static boolean wrongModule(int m) {
            return m < 0 || m > 5;
        }

        private static boolean wrongName(int name) {
            return name < 0 || name > 9;
        }

        private int add(int m, Word word) {
            if (words.get(m).size() == 8) {
                return -2;
            }
            words.get(m).add(word);
            return words.get(m).size();
        }

        int constant(int m, int v) {
            return wrongModule(m) ? -1 : add(m, new Word(false, 0, v));
        }

        int reference(int m, int name, int addend) {
            if (wrongModule(m) || wrongName(name) || addend < -100 || addend > 100) {
                return -1;
            }
            return add(m, new Word(true, name, addend));
        }

        int patch(int m, int w, int v) {
            if (wrongModule(m)) {
                return -1;
            }
            if (w < 0 || w >= words.get(m).size()) {
                return -4;
            }
            return words.get(m).set(w, new Word(false, 0, v)).isReference() ? 1 : 0;
        }

        int insert(int m, int w, int v) {
            if (wrongModule(m)) {
                return -1;
            }
            if (w < 0 || w > words.get(m).size()) {
                return -4;
            }
            if (words.get(m).size() == 8) {
                return -2;
            }
            words.get(m).add(w, new Word(false, 0, v));
            definitions.get(m).replaceAll((name, at) -> at < w ? at : at + 1);
            return words.get(m).size();
        }

        int delete(int m, int w) {
            if (wrongModule(m)) {
                return -1;
            }
            if (w < 0 || w >= words.get(m).size()) {
                return -4;
            }
            words.get(m).remove(w);
            definitions.get(m).replaceAll((name, at) -> at <= w ? at : at - 1);
            return words.get(m).size();
        }

        int unload(int m) {
            if (wrongModule(m)) {
                return -1;
            }
            int had = words.get(m).size();
            words.get(m).clear();
            definitions.get(m).clear();
            return had;
        }

        int define(int m, int name, int w) {
            if (wrongModule(m) || wrongName(name)) {
                return -1;
            }
            if (w < 0 || w > words.get(m).size()) {
                return -4;
            }
            return definitions.get(m).put(name, w) == null ? 0 : 1;
        }

        int undefine(int m, int name) {
            if (wrongModule(m) || wrongName(name)) {
                return -1;
            }
            Integer at = definitions.get(m).remove(name);
            return at == null ? -4 : at;
        }

        private List<Placed> image() {
            List<Placed> image = new ArrayList<>();
            for (int m = 0; m < 6; m++) {
                for (Word word : words.get(m)) {
                    image.add(new Placed(m, word));
                }
            }
            return image;
        }

        /** Name to the module whose definition counts: the greatest module first, so the least stays. */
        private TreeMap<Integer, Integer> counting() {
            TreeMap<Integer, Integer> counting = new TreeMap<>();
            for (int m = 5; m >= 0; m--) {
                for (int name : definitions.get(m).keySet()) {
                    counting.put(name, m);
                }
            }
            return counting;
        }

        int size() {
            return image().size();
        }

        int value(int place) {
            List<Placed> image = image();
            if (place < 0 || place >= image.size()) {
                return 0;
            }
            Word word = image.get(place).word();
            if (!word.isReference()) {
                return word.number();
            }
            return counting().containsKey(word.name()) ? where(word.name()) + word.number() : -1;
        }

        int address(int m) {
            return wrongModule(m) ? -1 : (int) image().stream().filter(p -> p.module() < m).count();
        }

        int where(int name) {
            Integer m = counting().get(name);
            return m == null ? -4 : address(m) + definitions.get(m).get(name);
        }

        int undefined() {
            TreeMap<Integer, Integer> counting = counting();
            return (int) image().stream()
                    .filter(p -> p.word().isReference() && !counting.containsKey(p.word().name())).count();
        }

        int idle() {
            return definitions.stream().mapToInt(TreeMap::size).sum() - counting().size();
        }

        int uses(int name) {
            if (wrongName(name)) {
                return -1;
            }
            return (int) image().stream()
                    .filter(p -> p.word().isReference() && p.word().name() == name).count();
        }

        int users(int m) {
            if (wrongModule(m)) {
                return -1;
            }
            TreeMap<Integer, Integer> counting = counting();
            return image().stream()
                    .filter(p -> p.word().isReference() && counting.getOrDefault(p.word().name(), -1) == m)
                    .mapToInt(Placed::module).distinct().map(user -> (int) Math.pow(2, user)).sum();
        }

        int moduleOf(int place) {
            List<Placed> image = image();
            return place < 0 || place >= image.size() ? -4 : image.get(place).module();
        }

        int digest() {
            long sum = 0;
            for (int place = 0; place < size(); place++) {
                sum += (place + 1L) * value(place);
            }
            return (int) sum;
        }
    }
}
