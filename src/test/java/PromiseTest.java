/** Each promise of the document by itself: ordinary inputs, its edges, and wrong inputs. */
public final class PromiseTest {
    private static final int BAD_ARG = -1;
    private static final int FULL = -2;
    private static final int NONE = -4;
    private static final int[] WRONG_MODULES = {-1, 6, Integer.MIN_VALUE, Integer.MAX_VALUE};
    private static final int[] WRONG_NAMES = {-1, 10, Integer.MIN_VALUE, Integer.MAX_VALUE};
    private static final int[] WRONG_ADDENDS = {-101, 101, Integer.MIN_VALUE, Integer.MAX_VALUE};

    private static int wrong = 0;
    private static int promise = 0;

    private static void due(String call, int got, int want) {
        if (got != want) {
            wrong++;
            System.out.println("promise " + promise + ": " + call + " answered " + got + ", due is " + want);
        }
    }

    public static void main(String[] args) {
        newObject();
        constant();
        reference();
        patch();
        insert();
        insertMovesDefinitions();
        delete();
        deleteMovesDefinitions();
        unload();
        define();
        undefine();
        size();
        value();
        address();
        where();
        undefined();
        idle();
        uses();
        users();
        moduleOf();
        digest();
        endKeepsItsNumber();
        refusedCallsChangeNothing();
        System.out.println(wrong == 0 ? "all answers are as due" : wrong + " answers are not as due");
        if (wrong != 0) {
            System.exit(1);
        }
    }

    private static void newObject() {
        promise = 1;
        due("BAD_ARG", IncrementalLinker.BAD_ARG, BAD_ARG);
        due("FULL", IncrementalLinker.FULL, FULL);
        due("NONE", IncrementalLinker.NONE, NONE);
        IncrementalLinker x = new IncrementalLinker();
        due("size()", x.size(), 0);
        due("undefined()", x.undefined(), 0);
        due("idle()", x.idle(), 0);
        due("digest()", x.digest(), 0);
        for (int m = 0; m < 6; m++) {
            due("address(" + m + ")", x.address(m), 0);
            due("users(" + m + ")", x.users(m), 0);
            due("unload(" + m + ")", x.unload(m), 0);
            for (int name = 0; name < 10; name++) {
                due("undefine(" + m + ", " + name + ")", x.undefine(m, name), NONE);
            }
        }
        for (int name = 0; name < 10; name++) {
            due("where(" + name + ")", x.where(name), NONE);
            due("uses(" + name + ")", x.uses(name), 0);
        }
        IncrementalLinker filled = new IncrementalLinker();
        filled.constant(0, 1);
        due("size() of another object", new IncrementalLinker().size(), 0);
    }

    private static void constant() {
        promise = 2;
        for (int m = 0; m < 6; m++) {
            IncrementalLinker x = new IncrementalLinker();
            for (int n = 1; n <= 8; n++) {
                due("constant(" + m + ", v) number " + n, x.constant(m, 10 * n), n);
            }
            due("constant to a full module", x.constant(m, 0), FULL);
            due("size()", x.size(), 8);
            due("value(0)", x.value(0), 10);
            due("value(7)", x.value(7), 80);
            due("constant to another module", x.constant((m + 1) % 6, 0), 1);
            for (int bad : WRONG_MODULES) {
                due("constant(" + bad + ", 0)", x.constant(bad, 0), BAD_ARG);
            }
        }
        IncrementalLinker x = new IncrementalLinker();
        due("constant(3, MIN)", x.constant(3, Integer.MIN_VALUE), 1);
        due("constant(3, MAX)", x.constant(3, Integer.MAX_VALUE), 2);
        due("constant(3, -1)", x.constant(3, -1), 3);
        due("value(0)", x.value(0), Integer.MIN_VALUE);
        due("value(1)", x.value(1), Integer.MAX_VALUE);
        due("undefined()", x.undefined(), 0);
    }

    private static void reference() {
        promise = 3;
        for (int m = 0; m < 6; m++) {
            IncrementalLinker x = new IncrementalLinker();
            for (int n = 1; n <= 8; n++) {
                due("reference(" + m + ", ..) number " + n, x.reference(m, n, n % 2 == 0 ? 100 : -100), n);
            }
            due("reference to a full module", x.reference(m, 0, 0), FULL);
            due("wrong name, full module", x.reference(m, 10, 0), BAD_ARG);
            due("wrong addend, full module", x.reference(m, 0, 101), BAD_ARG);
            due("uses(1)", x.uses(1), 1);
            due("uses(9)", x.uses(9), 0);
            due("undefined()", x.undefined(), 8);
        }
        IncrementalLinker x = new IncrementalLinker();
        for (int bad : WRONG_MODULES) {
            due("reference(" + bad + ", 0, 0)", x.reference(bad, 0, 0), BAD_ARG);
        }
        for (int bad : WRONG_NAMES) {
            due("reference(0, " + bad + ", 0)", x.reference(0, bad, 0), BAD_ARG);
        }
        for (int bad : WRONG_ADDENDS) {
            due("reference(0, 0, " + bad + ")", x.reference(0, 0, bad), BAD_ARG);
        }
        due("size()", x.size(), 0);
        due("reference(5, 0, 100)", x.reference(5, 0, 100), 1);
        due("reference(5, 9, -100)", x.reference(5, 9, -100), 2);
        due("define(5, 0, 1)", x.define(5, 0, 1), 0);
        due("define(5, 9, 2)", x.define(5, 9, 2), 0);
        due("value(0)", x.value(0), 101);
        due("value(1)", x.value(1), -98);
    }

    private static void patch() {
        promise = 4;
        IncrementalLinker x = new IncrementalLinker();
        x.reference(2, 0, 5);
        x.constant(2, 6);
        x.reference(4, 0, 7);
        x.define(2, 0, 0);
        due("patch(2, 0, 50)", x.patch(2, 0, 50), 1);
        due("patch(2, 0, 51)", x.patch(2, 0, 51), 0);
        due("patch(2, 1, MIN)", x.patch(2, 1, Integer.MIN_VALUE), 0);
        due("value(0)", x.value(0), 51);
        due("value(1)", x.value(1), Integer.MIN_VALUE);
        due("value(2)", x.value(2), 7);
        due("uses(0)", x.uses(0), 1);
        due("where(0)", x.where(0), 0);
        due("patch(2, 2, 0)", x.patch(2, 2, 0), NONE);
        due("patch(2, -1, 0)", x.patch(2, -1, 0), NONE);
        due("patch(2, MAX, 0)", x.patch(2, Integer.MAX_VALUE, 0), NONE);
        due("patch(2, MIN, 0)", x.patch(2, Integer.MIN_VALUE, 0), NONE);
        due("patch(3, 0, 0)", x.patch(3, 0, 0), NONE);
        for (int bad : WRONG_MODULES) {
            due("patch(" + bad + ", 0, 0)", x.patch(bad, 0, 0), BAD_ARG);
            due("patch(" + bad + ", -1, 0)", x.patch(bad, -1, 0), BAD_ARG);
        }
        due("size()", x.size(), 3);
    }

    private static void insert() {
        promise = 5;
        IncrementalLinker x = new IncrementalLinker();
        due("insert(0, 0, 1) as the first word of all", x.insert(0, 0, 1), 1);
        due("unload(0)", x.unload(0), 1);
        x.constant(2, 99);
        due("insert(1, 1, 0)", x.insert(1, 1, 0), NONE);
        due("insert(1, 0, 10)", x.insert(1, 0, 10), 1);
        due("insert(1, 1, 30)", x.insert(1, 1, 30), 2);
        due("insert(1, 1, 20)", x.insert(1, 1, 20), 3);
        due("insert(1, 0, 5)", x.insert(1, 0, 5), 4);
        due("insert(1, 5, 0)", x.insert(1, 5, 0), NONE);
        due("insert(1, -1, 0)", x.insert(1, -1, 0), NONE);
        due("insert(1, MAX, 0)", x.insert(1, Integer.MAX_VALUE, 0), NONE);
        due("insert(1, MIN, 0)", x.insert(1, Integer.MIN_VALUE, 0), NONE);
        int[] image = {5, 10, 20, 30, 99};
        for (int p = 0; p < image.length; p++) {
            due("value(" + p + ")", x.value(p), image[p]);
        }
        x.reference(1, 3, 1);
        due("insert before a reference", x.insert(1, 4, 40), 6);
        due("value(4)", x.value(4), 40);
        x.define(0, 3, 0);
        due("value(5)", x.value(5), 1);
        due("uses(3)", x.uses(3), 1);
        x.constant(1, 0);
        due("insert to seven words", x.insert(1, 7, -7), 8);
        due("insert to a full module, at 0", x.insert(1, 0, 0), FULL);
        due("insert to a full module, at its end", x.insert(1, 8, 0), FULL);
        due("insert to a full module, behind its end", x.insert(1, 9, 0), NONE);
        due("insert to a full module, at -1", x.insert(1, -1, 0), NONE);
        due("value(7)", x.value(7), -7);
        due("value(8)", x.value(8), 99);
        for (int bad : WRONG_MODULES) {
            due("insert(" + bad + ", 0, 0)", x.insert(bad, 0, 0), BAD_ARG);
            due("insert(" + bad + ", -1, 0)", x.insert(bad, -1, 0), BAD_ARG);
        }
    }

    private static void insertMovesDefinitions() {
        for (int w = 0; w <= 3; w++) {
            IncrementalLinker x = threeWordsDefinedEverywhere();
            due("insert(1, " + w + ", 0)", x.insert(1, w, 0), 4);
            for (int d = 0; d <= 3; d++) {
                due("undefine(1, " + d + ") after insert at " + w, x.undefine(1, d), d >= w ? d + 1 : d);
            }
            due("undefine(1, 4)", x.undefine(1, 4), NONE);
            due("undefine(0, 0)", x.undefine(0, 0), 0);
            due("undefine(2, 3)", x.undefine(2, 3), 1);
        }
    }

    /** Module 1 defines the name d at d, for all of its words and its end; modules 0 and 2 have a definition each. */
    private static IncrementalLinker threeWordsDefinedEverywhere() {
        IncrementalLinker x = new IncrementalLinker();
        for (int w = 0; w < 3; w++) {
            x.constant(1, w);
        }
        for (int d = 0; d <= 3; d++) {
            x.define(1, d, d);
        }
        x.define(0, 0, 0);
        x.constant(2, 0);
        x.define(2, 3, 1);
        return x;
    }

    private static void delete() {
        promise = 6;
        IncrementalLinker x = new IncrementalLinker();
        due("delete(1, 0)", x.delete(1, 0), NONE);
        for (int n = 0; n < 8; n++) {
            x.constant(1, n);
        }
        x.reference(2, 7, 3);
        due("delete(1, 8)", x.delete(1, 8), NONE);
        due("delete(1, -1)", x.delete(1, -1), NONE);
        due("delete(1, MAX)", x.delete(1, Integer.MAX_VALUE), NONE);
        due("delete(1, MIN)", x.delete(1, Integer.MIN_VALUE), NONE);
        due("delete(1, 7)", x.delete(1, 7), 7);
        due("delete(1, 0)", x.delete(1, 0), 6);
        due("delete(1, 2)", x.delete(1, 2), 5);
        due("delete(1, 5)", x.delete(1, 5), NONE);
        int[] image = {1, 2, 4, 5, 6, -1};
        for (int p = 0; p < image.length; p++) {
            due("value(" + p + ")", x.value(p), image[p]);
        }
        due("size()", x.size(), 6);
        x.constant(2, 50);
        x.reference(2, 7, 4);
        due("delete(2, 0)", x.delete(2, 0), 2);
        due("uses(7)", x.uses(7), 1);
        x.define(0, 7, 0);
        due("value(5)", x.value(5), 50);
        due("value(6)", x.value(6), 4);
        due("delete(2, 1)", x.delete(2, 1), 1);
        due("delete(2, 0)", x.delete(2, 0), 0);
        due("delete(2, 0)", x.delete(2, 0), NONE);
        for (int bad : WRONG_MODULES) {
            due("delete(" + bad + ", 0)", x.delete(bad, 0), BAD_ARG);
            due("delete(" + bad + ", -1)", x.delete(bad, -1), BAD_ARG);
        }
    }

    private static void deleteMovesDefinitions() {
        for (int w = 0; w < 3; w++) {
            IncrementalLinker x = threeWordsDefinedEverywhere();
            due("delete(1, " + w + ")", x.delete(1, w), 2);
            for (int d = 0; d <= 3; d++) {
                due("undefine(1, " + d + ") after delete of " + w, x.undefine(1, d), d > w ? d - 1 : d);
            }
            due("undefine(1, 4)", x.undefine(1, 4), NONE);
            due("undefine(0, 0)", x.undefine(0, 0), 0);
            due("undefine(2, 3)", x.undefine(2, 3), 1);
        }
    }

    private static void unload() {
        promise = 7;
        IncrementalLinker x = new IncrementalLinker();
        x.reference(1, 0, 0);
        x.constant(1, 4);
        x.constant(3, 5);
        x.define(1, 0, 1);
        x.define(1, 9, 2);
        x.define(3, 0, 1);
        due("unload(1)", x.unload(1), 2);
        due("unload(1) again", x.unload(1), 0);
        due("size()", x.size(), 1);
        due("value(0)", x.value(0), 5);
        due("where(0)", x.where(0), 1);
        due("where(9)", x.where(9), NONE);
        due("uses(0)", x.uses(0), 0);
        due("undefine(1, 0)", x.undefine(1, 0), NONE);
        due("constant(1, 8)", x.constant(1, 8), 1);
        due("define(1, 9, 1)", x.define(1, 9, 1), 0);
        due("value(0)", x.value(0), 8);
        for (int m = 0; m < 6; m += 5) {
            for (int n = 0; n < 8; n++) {
                x.constant(m, n);
            }
            due("unload(" + m + ") when full", x.unload(m), 8);
        }
        due("define at the end of an empty module", x.define(4, 5, 0), 0);
        due("unload(4)", x.unload(4), 0);
        due("where(5)", x.where(5), NONE);
        for (int bad : WRONG_MODULES) {
            due("unload(" + bad + ")", x.unload(bad), BAD_ARG);
        }
    }

    private static void define() {
        promise = 8;
        IncrementalLinker x = new IncrementalLinker();
        due("define(5, 9, 0)", x.define(5, 9, 0), 0);
        due("define(5, 9, 1)", x.define(5, 9, 1), NONE);
        x.constant(5, 1);
        x.constant(5, 2);
        due("define(5, 9, 2)", x.define(5, 9, 2), 1);
        due("where(9)", x.where(9), 2);
        due("define(5, 9, 1)", x.define(5, 9, 1), 1);
        due("define(5, 9, 1) again", x.define(5, 9, 1), 1);
        due("where(9)", x.where(9), 1);
        due("idle()", x.idle(), 0);
        due("define(5, 9, 3)", x.define(5, 9, 3), NONE);
        due("define(5, 9, -1)", x.define(5, 9, -1), NONE);
        due("define(5, 9, MAX)", x.define(5, 9, Integer.MAX_VALUE), NONE);
        due("define(5, 9, MIN)", x.define(5, 9, Integer.MIN_VALUE), NONE);
        due("where(9)", x.where(9), 1);
        due("define(5, 8, 1)", x.define(5, 8, 1), 0);
        due("define(0, 9, 0)", x.define(0, 9, 0), 0);
        due("where(9)", x.where(9), 0);
        due("undefine(5, 9)", x.undefine(5, 9), 1);
        due("undefine(5, 9) again", x.undefine(5, 9), NONE);
        for (int n = 0; n < 8; n++) {
            x.constant(2, n);
        }
        due("define(2, 0, 8)", x.define(2, 0, 8), 0);
        due("define(2, 0, 9)", x.define(2, 0, 9), NONE);
        due("where(0)", x.where(0), 8);
        for (int bad : WRONG_MODULES) {
            due("define(" + bad + ", 0, 0)", x.define(bad, 0, 0), BAD_ARG);
            due("define(" + bad + ", 0, -1)", x.define(bad, 0, -1), BAD_ARG);
        }
        for (int bad : WRONG_NAMES) {
            due("define(0, " + bad + ", 0)", x.define(0, bad, 0), BAD_ARG);
            due("define(0, " + bad + ", 99)", x.define(0, bad, 99), BAD_ARG);
        }
    }

    private static void undefine() {
        promise = 9;
        IncrementalLinker x = new IncrementalLinker();
        for (int n = 0; n < 8; n++) {
            x.constant(1, n);
            x.constant(4, n);
        }
        x.define(1, 2, 8);
        x.define(4, 2, 0);
        x.define(1, 3, 5);
        due("undefine(0, 2)", x.undefine(0, 2), NONE);
        due("undefine(1, 2)", x.undefine(1, 2), 8);
        due("undefine(1, 2) again", x.undefine(1, 2), NONE);
        due("where(2)", x.where(2), 8);
        due("where(3)", x.where(3), 5);
        due("undefine(4, 2)", x.undefine(4, 2), 0);
        due("where(2)", x.where(2), NONE);
        due("define(1, 2, 1)", x.define(1, 2, 1), 0);
        for (int bad : WRONG_MODULES) {
            due("undefine(" + bad + ", 2)", x.undefine(bad, 2), BAD_ARG);
        }
        for (int bad : WRONG_NAMES) {
            due("undefine(1, " + bad + ")", x.undefine(1, bad), BAD_ARG);
        }
    }

    private static IncrementalLinker full() {
        IncrementalLinker x = new IncrementalLinker();
        for (int m = 0; m < 6; m++) {
            for (int n = 0; n < 8; n++) {
                x.constant(m, 100 * m + n);
            }
        }
        return x;
    }

    private static void size() {
        promise = 10;
        IncrementalLinker x = new IncrementalLinker();
        x.constant(0, 1);
        due("size()", x.size(), 1);
        x.reference(5, 1, 1);
        due("size()", x.size(), 2);
        x.insert(3, 0, 1);
        due("size()", x.size(), 3);
        x.patch(3, 0, 2);
        x.define(3, 3, 1);
        due("size()", x.size(), 3);
        x.delete(0, 0);
        due("size()", x.size(), 2);
        due("size() when all are full", full().size(), 48);
    }

    private static void value() {
        promise = 11;
        IncrementalLinker x = full();
        for (int p = 0; p < 48; p++) {
            due("value(" + p + ")", x.value(p), 100 * (p / 8) + p % 8);
        }
        for (int bad : new int[] {-1, 48, Integer.MIN_VALUE, Integer.MAX_VALUE}) {
            due("value(" + bad + ")", x.value(bad), 0);
        }
        IncrementalLinker y = new IncrementalLinker();
        y.reference(0, 6, 50);
        y.constant(3, -9);
        y.constant(3, -8);
        due("value(0), name not defined", y.value(0), -1);
        y.define(3, 6, 1);
        due("value(0)", y.value(0), 52);
        y.define(1, 6, 0);
        due("value(0), lesser module", y.value(0), 51);
        y.define(5, 6, 0);
        due("value(0), greater module", y.value(0), 51);
        y.undefine(1, 6);
        y.undefine(3, 6);
        due("value(0), last module's end", y.value(0), 53);
        due("value(3)", y.value(3), 0);
        y.unload(5);
        due("value(0), name no longer defined", y.value(0), -1);
    }

    private static void address() {
        promise = 12;
        IncrementalLinker x = new IncrementalLinker();
        int[] words = {2, 0, 8, 1, 0, 3};
        for (int m = 0; m < 6; m++) {
            for (int n = 0; n < words[m]; n++) {
                x.constant(m, n);
            }
        }
        int[] addresses = {0, 2, 2, 10, 11, 11};
        for (int m = 0; m < 6; m++) {
            due("address(" + m + ")", x.address(m), addresses[m]);
            due("address of a module when all are full", full().address(m), 8 * m);
        }
        for (int bad : WRONG_MODULES) {
            due("address(" + bad + ")", x.address(bad), BAD_ARG);
        }
    }

    private static void where() {
        promise = 13;
        IncrementalLinker x = full();
        x.define(5, 0, 8);
        due("where(0)", x.where(0), 48);
        x.define(4, 0, 3);
        due("where(0)", x.where(0), 35);
        x.define(0, 0, 0);
        due("where(0)", x.where(0), 0);
        x.define(2, 9, 7);
        due("where(9)", x.where(9), 23);
        x.delete(1, 0);
        due("where(9)", x.where(9), 22);
        due("where(8)", x.where(8), NONE);
        for (int bad : WRONG_NAMES) {
            due("where(" + bad + ")", x.where(bad), NONE);
        }
    }

    private static void undefined() {
        promise = 14;
        IncrementalLinker x = new IncrementalLinker();
        x.reference(0, 1, 0);
        x.reference(0, 1, 5);
        x.reference(4, 1, 0);
        x.reference(5, 2, -1);
        x.constant(5, -1);
        due("undefined()", x.undefined(), 4);
        x.define(3, 1, 0);
        due("undefined()", x.undefined(), 1);
        x.define(5, 2, 0);
        due("undefined()", x.undefined(), 0);
        due("value(3), defined though -1 off", x.value(3), 2);
        x.define(4, 1, 0);
        x.undefine(3, 1);
        due("undefined()", x.undefined(), 0);
        x.undefine(4, 1);
        due("undefined()", x.undefined(), 3);
        x.patch(0, 0, 0);
        x.delete(4, 0);
        due("undefined()", x.undefined(), 1);
        IncrementalLinker y = new IncrementalLinker();
        y.reference(0, 0, -1);
        due("undefined(), the least name", y.undefined(), 1);
        y.define(0, 0, 0);
        due("value(0)", y.value(0), -1);
        due("undefined(), a defined name with the value -1", y.undefined(), 0);
    }

    private static void idle() {
        promise = 15;
        IncrementalLinker x = new IncrementalLinker();
        for (int m = 0; m < 6; m++) {
            x.define(m, 4, 0);
            due("idle()", x.idle(), m);
        }
        x.define(2, 5, 0);
        due("idle(), a name defined once", x.idle(), 5);
        x.define(1, 5, 0);
        due("idle()", x.idle(), 6);
        x.define(1, 5, 0);
        due("idle(), defined again", x.idle(), 6);
        x.undefine(0, 4);
        due("idle()", x.idle(), 5);
        x.unload(1);
        due("idle()", x.idle(), 3);
        IncrementalLinker y = new IncrementalLinker();
        for (int m = 0; m < 6; m++) {
            for (int name = 0; name < 10; name++) {
                y.define(m, name, 0);
            }
        }
        due("idle(), all define all", y.idle(), 50);
    }

    private static void uses() {
        promise = 16;
        IncrementalLinker x = new IncrementalLinker();
        for (int m = 0; m < 6; m++) {
            for (int n = 0; n < 8; n++) {
                x.reference(m, 9, n);
            }
        }
        due("uses(9)", x.uses(9), 48);
        due("uses(0)", x.uses(0), 0);
        x.define(2, 9, 0);
        due("uses(9), defined", x.uses(9), 48);
        x.patch(3, 3, 9);
        due("uses(9)", x.uses(9), 47);
        x.delete(5, 7);
        x.reference(5, 0, 0);
        due("uses(9)", x.uses(9), 46);
        due("uses(0)", x.uses(0), 1);
        x.unload(0);
        due("uses(9)", x.uses(9), 38);
        for (int bad : WRONG_NAMES) {
            due("uses(" + bad + ")", x.uses(bad), BAD_ARG);
        }
    }

    private static void users() {
        promise = 17;
        IncrementalLinker x = new IncrementalLinker();
        for (int m = 0; m < 6; m++) {
            x.reference(m, 7, 0);
            x.reference(m, 7, 1);
        }
        due("users(3), nothing defined", x.users(3), 0);
        x.define(3, 7, 0);
        due("users(3), itself among them", x.users(3), 63);
        due("users(0)", x.users(0), 0);
        x.define(1, 7, 0);
        due("users(3), idle", x.users(3), 0);
        due("users(1)", x.users(1), 63);
        x.unload(0);
        x.unload(4);
        due("users(1)", x.users(1), 2 + 4 + 8 + 32);
        x.reference(4, 6, 0);
        x.define(1, 6, 1);
        due("users(1), of two names", x.users(1), 2 + 4 + 8 + 16 + 32);
        x.undefine(1, 7);
        due("users(1)", x.users(1), 16);
        due("users(3)", x.users(3), 2 + 4 + 8 + 32);
        due("users(2)", x.users(2), 0);
        x.reference(0, 0, 0);
        x.define(2, 0, 0);
        due("users(2), of the least name", x.users(2), 1);
        x.reference(5, 9, 0);
        x.define(2, 9, 0);
        due("users(2), of the greatest name too", x.users(2), 1 + 32);
        for (int bad : WRONG_MODULES) {
            due("users(" + bad + ")", x.users(bad), BAD_ARG);
        }
    }

    private static void moduleOf() {
        promise = 18;
        IncrementalLinker x = full();
        for (int p = 0; p < 48; p++) {
            due("moduleOf(" + p + ")", x.moduleOf(p), p / 8);
        }
        for (int bad : new int[] {-1, 48, Integer.MIN_VALUE, Integer.MAX_VALUE}) {
            due("moduleOf(" + bad + ")", x.moduleOf(bad), NONE);
        }
        IncrementalLinker y = new IncrementalLinker();
        due("moduleOf(0), empty image", y.moduleOf(0), NONE);
        y.constant(1, 0);
        y.constant(4, 0);
        due("moduleOf(0)", y.moduleOf(0), 1);
        due("moduleOf(1)", y.moduleOf(1), 4);
        due("moduleOf(2)", y.moduleOf(2), NONE);
    }

    private static void digest() {
        promise = 19;
        IncrementalLinker x = new IncrementalLinker();
        x.constant(1, 3);
        due("digest()", x.digest(), 3);
        x.constant(4, 10);
        due("digest()", x.digest(), 23);
        x.reference(2, 5, 7);
        due("digest(), name not defined", x.digest(), 3 - 2 + 30);
        x.define(4, 5, 1);
        due("digest()", x.digest(), 3 + 2 * (3 + 7) + 30);
        IncrementalLinker y = new IncrementalLinker();
        y.constant(0, Integer.MAX_VALUE);
        y.constant(0, Integer.MAX_VALUE);
        due("digest(), wrapping", y.digest(), 2147483645);
        y.constant(0, Integer.MIN_VALUE);
        due("digest(), wrapping back", y.digest(), -3);
    }

    private static void endKeepsItsNumber() {
        promise = 20;
        IncrementalLinker x = new IncrementalLinker();
        x.define(2, 1, 0);
        x.constant(2, 40);
        due("where(1) after constant", x.where(1), 0);
        x.define(2, 2, 1);
        x.reference(2, 2, 0);
        due("where(2) after reference", x.where(2), 1);
        due("value(1), a reference to itself", x.value(1), 1);
        x.define(2, 3, 2);
        x.insert(2, 2, 0);
        due("where(3) after insert at the end", x.where(3), 3);
        x.constant(2, 41);
        due("where(3) after constant", x.where(3), 3);
        due("undefine(2, 3)", x.undefine(2, 3), 3);
    }

    private static void refusedCallsChangeNothing() {
        promise = 0;
        IncrementalLinker x = full();
        x.delete(3, 0);
        x.reference(3, 2, 4);
        x.define(1, 2, 3);
        x.define(4, 2, 8);
        String before = seen(x);
        x.constant(0, 7);
        x.constant(6, 7);
        x.reference(0, 2, 0);
        x.reference(0, 10, 0);
        x.reference(0, 2, 101);
        x.patch(0, 8, 0);
        x.patch(-1, 0, 0);
        x.insert(1, 3, 0);
        x.insert(1, 9, 0);
        x.insert(6, 0, 0);
        x.delete(1, 8);
        x.delete(6, 0);
        x.unload(6);
        x.unload(-1);
        x.define(1, 2, 9);
        x.define(6, 2, 0);
        x.define(0, 10, 0);
        x.undefine(0, 2);
        x.undefine(1, 10);
        x.undefine(6, 2);
        String after = seen(x);
        if (!before.equals(after)) {
            wrong++;
            System.out.println("refused calls changed " + before + " to " + after);
        }
        due("undefine(1, 2)", x.undefine(1, 2), 3);
        due("undefine(4, 2)", x.undefine(4, 2), 8);
    }

    private static String seen(IncrementalLinker x) {
        StringBuilder s = new StringBuilder();
        s.append(x.size()).append(' ').append(x.undefined()).append(' ').append(x.idle());
        s.append(' ').append(x.digest()).append(':');
        for (int p = 0; p < 49; p++) {
            s.append(' ').append(x.value(p));
        }
        for (int m = 0; m < 6; m++) {
            s.append(' ').append(x.address(m)).append(' ').append(x.users(m));
        }
        for (int name = 0; name < 10; name++) {
            s.append(' ').append(x.where(name)).append(' ').append(x.uses(name));
        }
        return s.toString();
    }
}
