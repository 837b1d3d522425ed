import java.util.ArrayList;
import java.util.Arrays;
import java.util.List;

/**
 * "No call ever throws. A refused call answers the code named and changes nothing." Every call is
 * made with all the arguments of a grid, on new objects in several states; its answer must be the
 * code of the document's first test that refuses it, and the object must then answer everything
 * as one that was not called does.
 */
public final class RefusalTest {
    private static final int BAD_ARG = -1;
    private static final int FULL = -2;
    private static final int NONE = -4;
    private static final int NOT_REFUSED = 1;
    private static final int LIMIT_OF_REPORTS = 20;
    private static final int MIN = Integer.MIN_VALUE;
    private static final int MAX = Integer.MAX_VALUE;
    private static final int[] GRID = {MIN, -101, -100, -5, -1, 0, 1, 3, 5, 6, 7, 8, 9, 10, 48, 100, 101, MAX};

    private static int refused = 0;
    private static int wrong = 0;

    private interface Call {
        int on(IncrementalLinker x, int a, int b, int c);
    }

    private interface Bound {
        int on(IncrementalLinker x);
    }

    /** The code with which the document refuses the arguments in a state, or NOT_REFUSED. */
    private interface Code {
        int of(State state, int a, int b, int c);
    }

    /** The words of each module, and whether names are defined and referred to. */
    private record State(String name, int[] words, boolean linked) {
        IncrementalLinker make() {
            IncrementalLinker x = new IncrementalLinker();
            for (int m = 0; m < 6; m++) {
                for (int w = 0; w < words[m]; w++) {
                    if (linked && w % 3 == 1) {
                        x.reference(m, (m + w) % 10, 7 * w - 20);
                    } else {
                        x.constant(m, 1000 * m + w);
                    }
                }
                if (linked) {
                    x.define(m, 3, words[m]);
                    x.define(m, 2 * (m % 5), words[m] / 2);
                    x.define(m, 9 - m, 0);
                }
            }
            return x;
        }

        boolean defines(int m, int name) {
            return linked && (name == 3 || name == 2 * (m % 5) || name == 9 - m);
        }
    }

    private static final State[] STATES = {
        new State("empty", new int[] {0, 0, 0, 0, 0, 0}, false),
        new State("empty, names defined", new int[] {0, 0, 0, 0, 0, 0}, true),
        new State("full", new int[] {8, 8, 8, 8, 8, 8}, false),
        new State("full, linked", new int[] {8, 8, 8, 8, 8, 8}, true),
        new State("mixed, linked", new int[] {1, 8, 0, 5, 7, 3}, true),
        new State("first and last full", new int[] {8, 0, 0, 1, 0, 8}, true),
    };

    public static void main(String[] args) {
        for (State state : STATES) {
            changes(state);
            questions(state);
        }
        System.out.println(refused + " refused calls, " + (wrong == 0 ? "all as due" : wrong + " not as due"));
        if (wrong != 0) {
            System.exit(1);
        }
    }

    private static void changes(State state) {
        grid("constant", state, 2, (x, m, v, c) -> x.constant(m, v), (s, m, v, c) -> appendCode(s, m));
        grid("reference", state, 3, IncrementalLinker::reference, RefusalTest::referenceCode);
        grid("patch", state, 3, IncrementalLinker::patch, (s, m, w, v) -> wordCode(s, m, w));
        grid("insert", state, 3, IncrementalLinker::insert, RefusalTest::insertCode);
        grid("delete", state, 2, (x, m, w, c) -> x.delete(m, w), (s, m, w, c) -> wordCode(s, m, w));
        grid("unload", state, 1, (x, m, b, c) -> x.unload(m), (s, m, b, c) -> moduleCode(m));
        grid("define", state, 3, IncrementalLinker::define, RefusalTest::defineCode);
        grid("undefine", state, 2, (x, m, name, c) -> x.undefine(m, name), RefusalTest::undefineCode);
    }

    private static void questions(State state) {
        question("size", state, 0, (x, a, b, c) -> x.size(), (s, a, b, c) -> NOT_REFUSED);
        question("value", state, 1, (x, p, b, c) -> x.value(p), (s, p, b, c) -> placeCode(s, p, 0));
        question("address", state, 1, (x, m, b, c) -> x.address(m), (s, m, b, c) -> moduleCode(m));
        question("where", state, 1, (x, name, b, c) -> x.where(name), RefusalTest::whereCode);
        question("undefined", state, 0, (x, a, b, c) -> x.undefined(), (s, a, b, c) -> NOT_REFUSED);
        question("idle", state, 0, (x, a, b, c) -> x.idle(), (s, a, b, c) -> NOT_REFUSED);
        question("uses", state, 1, (x, name, b, c) -> x.uses(name), (s, name, b, c) -> nameCode(name));
        question("users", state, 1, (x, m, b, c) -> x.users(m), (s, m, b, c) -> moduleCode(m));
        question("moduleOf", state, 1, (x, p, b, c) -> x.moduleOf(p), (s, p, b, c) -> placeCode(s, p, NONE));
        question("digest", state, 0, (x, a, b, c) -> x.digest(), (s, a, b, c) -> NOT_REFUSED);
    }

    private static int moduleCode(int m) {
        return m < 0 || m > 5 ? BAD_ARG : NOT_REFUSED;
    }

    private static int nameCode(int name) {
        return name < 0 || name > 9 ? BAD_ARG : NOT_REFUSED;
    }

    private static int appendCode(State state, int m) {
        if (m < 0 || m > 5) {
            return BAD_ARG;
        }
        return state.words()[m] == 8 ? FULL : NOT_REFUSED;
    }

    private static int referenceCode(State state, int m, int name, int addend) {
        if (name < 0 || name > 9 || addend < -100 || addend > 100) {
            return BAD_ARG;
        }
        return appendCode(state, m);
    }

    private static int wordCode(State state, int m, int w) {
        if (m < 0 || m > 5) {
            return BAD_ARG;
        }
        return w < 0 || w > state.words()[m] - 1 ? NONE : NOT_REFUSED;
    }

    private static int insertCode(State state, int m, int w, int v) {
        if (m < 0 || m > 5) {
            return BAD_ARG;
        }
        return w < 0 || w > state.words()[m] ? NONE : appendCode(state, m);
    }

    private static int defineCode(State state, int m, int name, int w) {
        if (m < 0 || m > 5 || name < 0 || name > 9) {
            return BAD_ARG;
        }
        return w < 0 || w > state.words()[m] ? NONE : NOT_REFUSED;
    }

    private static int undefineCode(State state, int m, int name, int unused) {
        if (m < 0 || m > 5 || name < 0 || name > 9) {
            return BAD_ARG;
        }
        return state.defines(m, name) ? NOT_REFUSED : NONE;
    }

    private static int whereCode(State state, int name, int b, int c) {
        for (int m = 0; m < 6; m++) {
            if (name >= 0 && name <= 9 && state.defines(m, name)) {
                return NOT_REFUSED;
            }
        }
        return NONE;
    }

    private static int placeCode(State state, int place, int code) {
        return place < 0 || place >= Arrays.stream(state.words()).sum() ? code : NOT_REFUSED;
    }

    private static void grid(String name, State state, int arguments, Call call, Code code) {
        forEachArguments(name, state, arguments, call, code, false);
    }

    /** A question changes nothing even if it is answered. */
    private static void question(String name, State state, int arguments, Call call, Code code) {
        forEachArguments(name, state, arguments, call, code, true);
    }

    private static void forEachArguments(
            String name, State state, int arguments, Call call, Code code, boolean onlyAsks) {
        int[] none = {0};
        for (int a : arguments > 0 ? GRID : none) {
            for (int b : arguments > 1 ? GRID : none) {
                for (int c : arguments > 2 ? GRID : none) {
                    int[] given = Arrays.copyOf(new int[] {a, b, c}, arguments);
                    String told = state.name() + ": " + name + Arrays.toString(given);
                    int due = code.of(state, a, b, c);
                    try {
                        oneCall(told, state, x -> call.on(x, a, b, c), due, onlyAsks);
                    } catch (RuntimeException | StackOverflowError thrown) {
                        fail(told + " threw " + thrown);
                    }
                }
            }
        }
    }

    private static void oneCall(String told, State state, Bound call, int code, boolean onlyAsks) {
        IncrementalLinker asked = state.make();
        int answer = call.on(asked);
        if (code != NOT_REFUSED) {
            refused++;
            if (answer != code) {
                fail(told + " answered " + answer + ", due is " + code);
            }
        } else if (!onlyAsks && answer < 0) {
            fail(told + " answered " + answer + ", but nothing refuses it");
        }
        List<Integer> answers = askedAndUnloaded(asked);
        IncrementalLinker apart = state.make();
        call.on(apart);
        List<Integer> parts = takenApart(apart);
        if (code != NOT_REFUSED || onlyAsks) {
            same(told, answers, askedAndUnloaded(state.make()));
            same(told, parts, takenApart(state.make()));
        }
    }

    private static void same(String told, List<Integer> after, List<Integer> untouched) {
        if (!after.equals(untouched)) {
            fail(told + " changed " + untouched + " to " + after);
        }
    }

    private static void fail(String what) {
        wrong++;
        if (wrong <= LIMIT_OF_REPORTS) {
            System.out.println(what);
        }
    }

    // An object is looked at in two ways that share few calls: if the call in question did change
    // something, one way must come upon it before that call hides it by being part of the look.

    /** All that can be asked, then where the names are as the modules go, from the least on. */
    private static List<Integer> askedAndUnloaded(IncrementalLinker x) {
        List<Integer> answers = new ArrayList<>(List.of(x.size(), x.undefined(), x.idle(), x.digest()));
        for (int place = -1; place <= 48; place++) {
            answers.add(x.value(place));
            answers.add(x.moduleOf(place));
        }
        for (int m = 0; m < 6; m++) {
            answers.add(x.address(m));
            answers.add(x.users(m));
        }
        for (int name = 0; name <= 9; name++) {
            answers.add(x.uses(name));
        }
        for (int m = 0; m < 6; m++) {
            for (int name = 0; name <= 9; name++) {
                answers.add(x.where(name));
            }
            answers.add(x.unload(m));
        }
        return answers;
    }

    /**
     * Where each module defines each name; the addends of the references, once all names have one
     * address; whether each word is a reference; and the words of each module.
     */
    private static List<Integer> takenApart(IncrementalLinker x) {
        List<Integer> answers = new ArrayList<>();
        for (int name = 0; name <= 9; name++) {
            for (int m = 0; m < 6; m++) {
                answers.add(x.undefine(m, name));
            }
            answers.add(x.define(0, name, 0));
        }
        for (int place = 0; place < 48; place++) {
            answers.add(x.value(place));
        }
        for (int m = 0; m < 6; m++) {
            for (int w = 0; w < 8; w++) {
                answers.add(x.patch(m, w, 0));
            }
            answers.add(x.unload(m));
        }
        return answers;
    }
}
