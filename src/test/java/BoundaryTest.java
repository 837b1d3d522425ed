/**
 * One test for each sentence of the document that names a boundary case. Each stands by itself on
 * new objects, and is told with the sentence that it holds the class to.
 */
public final class BoundaryTest {
    private static final int BAD_ARG = -1;
    private static final int FULL = -2;
    private static final int NONE = -4;
    private static final int MIN = Integer.MIN_VALUE;
    private static final int MAX = Integer.MAX_VALUE;
    private static final int[] NO_MODULES = {MIN, -2, -1, 6, 7, MAX};
    private static final int[] NO_NAMES = {MIN, -2, -1, 10, 11, MAX};
    private static final int[] NO_ADDENDS = {MIN, -102, -101, 101, 102, MAX};

    private static String sentence = "";
    private static int tests = 0;
    private static int wrong = 0;

    public static void main(String[] args) {
        terms();
        newObjectAndAppends();
        changesOfWords();
        definitions();
        questionsOfPlaces();
        questionsOfNames();
        limits();
        System.out.println(tests + " sentences, " + (wrong == 0 ? "all answers are as due" : wrong + " answers are not as due"));
        if (wrong != 0) {
            System.exit(1);
        }
    }

    private static void test(String where, String words, Runnable run) {
        sentence = where + ": \"" + words + "\"";
        tests++;
        try {
            run.run();
        } catch (RuntimeException | StackOverflowError thrown) {
            wrong++;
            System.out.println(sentence + ": threw " + thrown);
        }
    }

    private static void due(String call, int got, int want) {
        if (got != want) {
            wrong++;
            System.out.println(sentence + ": " + call + " answered " + got + ", due is " + want);
        }
    }

    private static void terms() {
        test("Terms", "MODULES are 0 to 5", BoundaryTest::modulesAreZeroToFive);
        test("Terms", "a module has 0 to 8 WORDS, numbered from 0 on", BoundaryTest::wordsAreNumberedFromZero);
        test("Terms", "a CONSTANT, an int", BoundaryTest::constantsAreAllInts);
        test("Terms", "a NAME, 0 to 9", BoundaryTest::namesAreZeroToNine);
        test("Terms", "an ADDEND, -100 to 100", BoundaryTest::addendsCountToTheLast);
        test("Terms", "each at one of its words, or at its end (the number of its words)", BoundaryTest::definedAtWordsOrEnd);
        test("Terms", "the definition in the module with the least number COUNTS", BoundaryTest::leastModuleCounts);
        test("Terms", "the others are IDLE", BoundaryTest::othersAreIdle);
        test("Terms", "its places are numbered from 0 on", BoundaryTest::placesAreNumberedFromZero);
        test("Terms", "(or where that would be)", BoundaryTest::addressOfEmptyModule);
        test("Terms", "plus the number of the word it is defined at", BoundaryTest::addressOfNameAtEnd);
        test("Terms", "the address of its name plus the addend", BoundaryTest::referenceToTheFarthest);
        test("Terms", "-1 if the name is not defined at all", BoundaryTest::valueOfUndefinedName);
        test("Terms", "The constants", BoundaryTest::codes);
        test("What it is", "at most 512 calls after it has been made", BoundaryTest::all512CallsAreAnswered);
    }

    private static void newObjectAndAppends() {
        test("Promise 1", "All modules are empty", BoundaryTest::newModulesAreEmpty);
        test("Promise 1", "and define nothing", BoundaryTest::newModulesDefineNothing);
        test("Promise 1", "A new object", BoundaryTest::objectsAreApart);
        test("Promise 2", "m not 0 to 5 answers BAD_ARG", BoundaryTest::constantWithoutModule);
        test("Promise 2", "FULL", BoundaryTest::constantToFullModule);
        test("Promise 2", "Otherwise the number of its words", BoundaryTest::constantAnswersOneToEight);
        test("Promise 3", "m not 0 to 5 .. answers BAD_ARG", BoundaryTest::referenceWithoutModule);
        test("Promise 3", "name not 0 to 9 .. answers BAD_ARG", BoundaryTest::referenceWithoutName);
        test("Promise 3", "addend not -100 to 100 answers BAD_ARG", BoundaryTest::referenceWithoutAddend);
        test("Promise 3", "Tested in this order: .. BAD_ARG; FULL", BoundaryTest::referenceOrder);
        test("Promise 3", "FULL", BoundaryTest::referenceToFullModule);
        test("Promise 3", "Otherwise the number of its words", BoundaryTest::referenceAnswersOneToEight);
    }

    private static void changesOfWords() {
        test("Promise 4", "BAD_ARG if m is not 0 to 5", BoundaryTest::patchWithoutModule);
        test("Promise 4", "NONE if it has no word w", BoundaryTest::patchWithoutWord);
        test("Promise 4", "1 if the word was a reference, else 0", BoundaryTest::patchAnswersWhatWas);
        test("Promise 4", "Word w of module m becomes the constant v", BoundaryTest::patchFirstAndLast);
        test("Promise 5", "m not 0 to 5 answers BAD_ARG", BoundaryTest::insertWithoutModule);
        test("Promise 5", "w not 0 to the number of its words answers NONE", BoundaryTest::insertWithoutWord);
        test("Promise 5", "FULL", BoundaryTest::insertToFullModule);
        test("Promise 5", "Tested in this order: .. NONE; FULL", BoundaryTest::insertOrder);
        test("Promise 5", "Otherwise the number of its words", BoundaryTest::insertAnswersOneToEight);
        test("Promise 5", "those from w on one further", BoundaryTest::insertMovesWords);
        test("Promise 5", "definitions at these words .. go with them", BoundaryTest::insertMovesDefinitionsFromWordOn);
        test("Promise 5", "or at the end", BoundaryTest::insertMovesDefinitionsAtEnd);
        test("Promise 6", "BAD_ARG if m is not 0 to 5", BoundaryTest::deleteWithoutModule);
        test("Promise 6", "NONE if there is no word w", BoundaryTest::deleteWithoutWord);
        test("Promise 6", "Otherwise the number of its words", BoundaryTest::deleteAnswersSevenToZero);
        test("Promise 6", "Takes word w out of module m", BoundaryTest::deleteMovesWords);
        test("Promise 6", "definitions at words behind it .. go one back", BoundaryTest::deleteMovesDefinitionsBehind);
        test("Promise 6", "or at the end, go one back", BoundaryTest::deleteMovesDefinitionsAtEnd);
        test("Promise 6", "those at w stay at w", BoundaryTest::deleteLeavesDefinitionsAtWord);
        test("Promise 7", "BAD_ARG if m is not 0 to 5", BoundaryTest::unloadWithoutModule);
        test("Promise 7", "Otherwise the number of words it had", BoundaryTest::unloadAnswersZeroToEight);
        test("Promise 7", "Module m is empty .. from now on", BoundaryTest::unloadedModuleIsEmpty);
        test("Promise 7", "and defines nothing from now on", BoundaryTest::unloadedModuleDefinesNothing);
    }

    private static void definitions() {
        test("Promise 8", "m not 0 to 5 .. answers BAD_ARG", BoundaryTest::defineWithoutModule);
        test("Promise 8", "name not 0 to 9 answers BAD_ARG", BoundaryTest::defineWithoutName);
        test("Promise 8", "w not 0 to the number of its words answers NONE", BoundaryTest::defineWithoutWord);
        test("Promise 8", "Tested in this order: .. BAD_ARG; .. NONE", BoundaryTest::defineOrder);
        test("Promise 8", "Otherwise 1 if it defined it before, else 0", BoundaryTest::defineAnswersWhetherBefore);
        test("Promise 8", "if it defined it before, elsewhere, no longer there", BoundaryTest::definedNoLongerThere);
        test("Promise 9", "BAD_ARG as for define", BoundaryTest::undefineWithoutModuleOrName);
        test("Promise 9", "NONE if it does not define it", BoundaryTest::undefineWhatIsNotDefined);
        test("Promise 9", "Otherwise the word where it did", BoundaryTest::undefineAnswersZeroToEight);
        test("Promise 9", "Module m no longer defines the name", BoundaryTest::undefineIsOfOneModule);
    }

    private static void questionsOfPlaces() {
        test("Promise 10", "The number of places of the image", BoundaryTest::sizeIsZeroTo48);
        test("Promise 11", "0 if there is none", BoundaryTest::valueWithoutPlace);
        test("Promise 11", "The value of a place", BoundaryTest::valueOfFirstAndLast);
        test("Promise 12", "BAD_ARG if m is not 0 to 5", BoundaryTest::addressWithoutModule);
        test("Promise 12", "The address of module m", BoundaryTest::addressOfFullModules);
        test("Promise 18", "NONE if there is no such place", BoundaryTest::moduleOfWithoutPlace);
        test("Promise 18", "The module of a place", BoundaryTest::moduleOfFirstAndLast);
        test("Promise 19", "The sum .. over all places p of (p + 1) times the value", BoundaryTest::digestFromFirstToLast);
        test("Promise 19", "The sum, wrapping", BoundaryTest::digestWraps);
    }

    private static void questionsOfNames() {
        test("Promise 13", "NONE if it is not defined", BoundaryTest::whereOfUndefinedName);
        test("Promise 13", "or no name", BoundaryTest::whereWithoutName);
        test("Promise 13", "The address of a name", BoundaryTest::whereIsZeroTo48);
        test("Promise 14", "How many places have a reference", BoundaryTest::undefinedIsZeroTo48);
        test("Promise 14", "to a name that is not defined", BoundaryTest::undefinedLooksAtNames);
        test("Promise 15", "How many definitions are idle", BoundaryTest::idleIsZeroTo50);
        test("Promise 16", "BAD_ARG if it is not 0 to 9", BoundaryTest::usesWithoutName);
        test("Promise 16", "How many places refer to the name", BoundaryTest::usesIsZeroTo48);
        test("Promise 17", "BAD_ARG if m is not 0 to 5", BoundaryTest::usersWithoutModule);
        test("Promise 17", "the sum of 2 to the power of their numbers", BoundaryTest::usersIsZeroTo63);
        test("Promise 17", "The set of the modules", BoundaryTest::usersCountsAModuleOnce);
        test("Promise 17", "a name whose counting definition is in module m", BoundaryTest::usersOfCountingOnly);
    }

    private static void limits() {
        test("Promise 20", "constant .. a definition at the end of the module keeps its number", BoundaryTest::constantLeavesEnd);
        test("Promise 20", "reference: a definition at the end of the module keeps its number", BoundaryTest::referenceLeavesEnd);
        test("Promise 20", "so it is at the appended word then", BoundaryTest::endIsAtAppendedWord);
    }

    // What the tests begin with.

    private static IncrementalLinker withWords(int m, int words) {
        IncrementalLinker x = new IncrementalLinker();
        fill(x, m, words);
        return x;
    }

    private static void fill(IncrementalLinker x, int m, int words) {
        for (int w = 0; w < words; w++) {
            x.constant(m, 10 * m + w);
        }
    }

    /** Place p has the constant 10 times its module plus its word. */
    private static IncrementalLinker allFull() {
        IncrementalLinker x = new IncrementalLinker();
        for (int m = 0; m < 6; m++) {
            fill(x, m, 8);
        }
        return x;
    }

    private static IncrementalLinker allReferTo(int name) {
        IncrementalLinker x = new IncrementalLinker();
        for (int m = 0; m < 6; m++) {
            for (int w = 0; w < 8; w++) {
                x.reference(m, name, 0);
            }
        }
        return x;
    }

    /** Module 2 has the words and defines the name d at d, for each word and the end. */
    private static IncrementalLinker definedEverywhere(int words) {
        IncrementalLinker x = withWords(2, words);
        for (int d = 0; d <= words; d++) {
            x.define(2, d, d);
        }
        return x;
    }

    /** The numbers that are not from 0 to the greatest, near to it and far off. */
    private static int[] beside(int greatest) {
        return new int[] {MIN, MIN + 1, -2, -1, greatest + 1, greatest + 2, 48, MAX - 1, MAX};
    }

    // Terms

    private static void modulesAreZeroToFive() {
        for (int m = 0; m <= 5; m++) {
            IncrementalLinker x = new IncrementalLinker();
            due("constant(" + m + ", 1)", x.constant(m, 1), 1);
            due("reference(" + m + ", 0, 0)", x.reference(m, 0, 0), 2);
            due("insert(" + m + ", 0, 1)", x.insert(m, 0, 1), 3);
            due("patch(" + m + ", 2, 1)", x.patch(m, 2, 1), 1);
            due("delete(" + m + ", 0)", x.delete(m, 0), 2);
            due("define(" + m + ", 0, 2)", x.define(m, 0, 2), 0);
            due("address(" + m + ")", x.address(m), 0);
            due("users(" + m + ")", x.users(m), 0);
            due("undefine(" + m + ", 0)", x.undefine(m, 0), 2);
            due("unload(" + m + ")", x.unload(m), 2);
        }
    }

    private static void wordsAreNumberedFromZero() {
        for (int m = 0; m < 6; m++) {
            IncrementalLinker x = withWords(m, 8);
            for (int w = 0; w < 8; w++) {
                due("patch(" + m + ", " + w + ", 500)", x.patch(m, w, 500 + w), 0);
                due("value(" + w + ")", x.value(w), 500 + w);
            }
            due("patch(" + m + ", 8, 508)", x.patch(m, 8, 508), NONE);
        }
    }

    private static void constantsAreAllInts() {
        for (int v : new int[] {MIN, MIN + 1, -101, -4, -2, -1, 0, 1, 9, 10, 101, MAX - 1, MAX}) {
            IncrementalLinker x = new IncrementalLinker();
            due("constant(1, " + v + ")", x.constant(1, v), 1);
            due("insert(1, 1, " + v + ")", x.insert(1, 1, v), 2);
            due("constant(1, 0)", x.constant(1, 0), 3);
            due("patch(1, 2, " + v + ")", x.patch(1, 2, v), 0);
            for (int p = 0; p < 3; p++) {
                due("value(" + p + ")", x.value(p), v);
                due("patch(1, " + p + ", 0)", x.patch(1, p, 0), 0);
            }
        }
    }

    private static void namesAreZeroToNine() {
        for (int name = 0; name <= 9; name++) {
            IncrementalLinker x = new IncrementalLinker();
            due("reference(0, " + name + ", 0)", x.reference(0, name, 0), 1);
            due("uses(" + name + ")", x.uses(name), 1);
            due("undefined()", x.undefined(), 1);
            due("define(0, " + name + ", 1)", x.define(0, name, 1), 0);
            due("where(" + name + ")", x.where(name), 1);
            due("value(0)", x.value(0), 1);
            for (int other = 0; other <= 9; other++) {
                due("uses(" + other + ")", x.uses(other), other == name ? 1 : 0);
                due("undefine(0, " + other + ")", x.undefine(0, other), other == name ? 1 : NONE);
            }
        }
    }

    private static void addendsCountToTheLast() {
        for (int addend : new int[] {-100, -99, -1, 0, 1, 99, 100}) {
            IncrementalLinker x = new IncrementalLinker();
            due("reference(3, 4, " + addend + ")", x.reference(3, 4, addend), 1);
            due("define(3, 4, 0)", x.define(3, 4, 0), 0);
            due("value(0)", x.value(0), addend);
        }
    }

    private static void definedAtWordsOrEnd() {
        for (int words = 0; words <= 8; words++) {
            IncrementalLinker x = withWords(1, words);
            for (int w = 0; w <= words; w++) {
                due("define(1, " + w + ", " + w + ") of " + words, x.define(1, w, w), 0);
                due("where(" + w + ")", x.where(w), w);
            }
        }
        IncrementalLinker y = withWords(1, 3);
        for (int name = 0; name <= 9; name++) {
            due("define(1, " + name + ", 3), all at one end", y.define(1, name, 3), 0);
        }
        for (int name = 0; name <= 9; name++) {
            due("where(" + name + ")", y.where(name), 3);
        }
    }

    private static void leastModuleCounts() {
        IncrementalLinker x = new IncrementalLinker();
        for (int m = 0; m < 6; m++) {
            x.constant(m, 0);
        }
        for (int m = 5; m >= 0; m--) {
            x.define(m, 3, 0);
            due("where(3), modules from " + m + " on define it", x.where(3), m);
        }
        x.define(5, 3, 1);
        due("where(3), defined last in module 5", x.where(3), 0);
        for (int m = 0; m < 5; m++) {
            x.undefine(m, 3);
            due("where(3), modules from " + (m + 1) + " on define it", x.where(3), m == 4 ? 6 : m + 1);
        }
    }

    private static void othersAreIdle() {
        IncrementalLinker x = new IncrementalLinker();
        for (int m = 5; m >= 0; m--) {
            x.define(m, 3, 0);
            due("idle(), modules from " + m + " on define it", x.idle(), 5 - m);
        }
        for (int m = 0; m < 6; m++) {
            x.undefine(m, 3);
            due("idle(), modules from " + (m + 1) + " on define it", x.idle(), m < 5 ? 4 - m : 0);
        }
    }

    private static void placesAreNumberedFromZero() {
        for (int m = 0; m < 6; m++) {
            IncrementalLinker x = new IncrementalLinker();
            x.constant(m, 77);
            due("value(0), word 0 of module " + m, x.value(0), 77);
            due("moduleOf(0)", x.moduleOf(0), m);
            due("value(1)", x.value(1), 0);
            due("moduleOf(1)", x.moduleOf(1), NONE);
        }
    }

    private static void addressOfEmptyModule() {
        IncrementalLinker x = new IncrementalLinker();
        for (int m = 0; m < 6; m++) {
            due("address(" + m + "), empty image", x.address(m), 0);
        }
        fill(x, 1, 8);
        fill(x, 4, 1);
        int[] addresses = {0, 0, 8, 8, 8, 9};
        for (int m = 0; m < 6; m++) {
            due("address(" + m + ")", x.address(m), addresses[m]);
        }
    }

    private static void addressOfNameAtEnd() {
        IncrementalLinker x = withWords(0, 2);
        fill(x, 3, 8);
        x.define(0, 0, 2);
        due("where(0), the end of module 0", x.where(0), 2);
        x.define(1, 1, 0);
        due("where(1), the end of an empty module", x.where(1), 2);
        x.define(3, 2, 8);
        due("where(2), the end of a full module", x.where(2), 10);
        x.define(5, 3, 0);
        due("where(3), the end of the image", x.where(3), 10);
    }

    private static void referenceToTheFarthest() {
        IncrementalLinker x = allFull();
        x.define(0, 0, 0);
        x.define(5, 1, 8);
        x.delete(0, 7);
        x.reference(0, 0, -100);
        due("value(7), the least there is", x.value(7), -100);
        x.delete(0, 7);
        x.reference(0, 1, 100);
        due("value(7), the greatest there is", x.value(7), 148);
    }

    private static void valueOfUndefinedName() {
        for (int addend : new int[] {-100, -1, 0, 1, 100}) {
            IncrementalLinker x = new IncrementalLinker();
            x.reference(0, 9, addend);
            x.define(0, 8, 1);
            due("value(0), addend " + addend, x.value(0), -1);
            x.define(5, 9, 0);
            due("value(0), defined", x.value(0), 1 + addend);
            x.undefine(5, 9);
            due("value(0), no longer defined", x.value(0), -1);
        }
    }

    private static void codes() {
        due("BAD_ARG", IncrementalLinker.BAD_ARG, -1);
        due("FULL", IncrementalLinker.FULL, -2);
        due("NONE", IncrementalLinker.NONE, -4);
    }

    private static void all512CallsAreAnswered() {
        IncrementalLinker x = new IncrementalLinker();
        for (int round = 0; round < 64; round++) {
            int m = round % 6;
            due("insert, round " + round, x.insert(m, 0, round), 1);
            due("reference, round " + round, x.reference(m, 1, round), 2);
            due("define, round " + round, x.define(m, 1, 2), 0);
            due("value, round " + round, x.value(1), 2 + round);
            due("patch, round " + round, x.patch(m, 1, 5), 1);
            due("digest, round " + round, x.digest(), round + 10);
            due("delete, round " + round, x.delete(m, 0), 1);
            due("unload, round " + round, x.unload(m), 1);
        }
    }

    // Promise 1

    private static void newModulesAreEmpty() {
        IncrementalLinker x = new IncrementalLinker();
        due("size()", x.size(), 0);
        due("value(0)", x.value(0), 0);
        due("moduleOf(0)", x.moduleOf(0), NONE);
        due("digest()", x.digest(), 0);
        due("undefined()", x.undefined(), 0);
        for (int m = 0; m < 6; m++) {
            due("patch(" + m + ", 0, 0)", x.patch(m, 0, 0), NONE);
            due("delete(" + m + ", 0)", x.delete(m, 0), NONE);
            due("unload(" + m + ")", x.unload(m), 0);
        }
        for (int name = 0; name <= 9; name++) {
            due("uses(" + name + ")", x.uses(name), 0);
        }
    }

    private static void newModulesDefineNothing() {
        IncrementalLinker x = new IncrementalLinker();
        due("idle()", x.idle(), 0);
        for (int name = 0; name <= 9; name++) {
            due("where(" + name + ")", x.where(name), NONE);
            for (int m = 0; m < 6; m++) {
                due("undefine(" + m + ", " + name + ")", x.undefine(m, name), NONE);
            }
        }
        for (int m = 0; m < 6; m++) {
            due("users(" + m + ")", x.users(m), 0);
            due("define(" + m + ", 9, 0)", x.define(m, 9, 0), 0);
        }
    }

    private static void objectsAreApart() {
        IncrementalLinker x = new IncrementalLinker();
        IncrementalLinker y = allReferTo(4);
        y.define(0, 4, 8);
        due("size() of the first", x.size(), 0);
        due("where(4) of the first", x.where(4), NONE);
        due("constant(0, 1) of the first", x.constant(0, 1), 1);
        due("size() of the second", y.size(), 48);
        due("value(0) of the second", y.value(0), 8);
        due("size() of a third", new IncrementalLinker().size(), 0);
    }

    // Promise 2

    private static void constantWithoutModule() {
        for (int m : NO_MODULES) {
            due("constant(" + m + ", 0), all empty", new IncrementalLinker().constant(m, 0), BAD_ARG);
            due("constant(" + m + ", 0), all full", allFull().constant(m, 0), BAD_ARG);
        }
    }

    private static void constantToFullModule() {
        for (int m = 0; m < 6; m++) {
            IncrementalLinker x = withWords(m, 8);
            due("constant(" + m + ", 1), 8 words", x.constant(m, 1), FULL);
            due("constant(" + m + ", 1) again", x.constant(m, 1), FULL);
            due("delete(" + m + ", 3)", x.delete(m, 3), 7);
            due("constant(" + m + ", 1), 7 words", x.constant(m, 1), 8);
            due("constant(" + m + ", 1), 8 words again", x.constant(m, 1), FULL);
            due("size()", x.size(), 8);
        }
    }

    private static void constantAnswersOneToEight() {
        for (int m = 0; m < 6; m++) {
            IncrementalLinker x = new IncrementalLinker();
            for (int n = 1; n <= 8; n++) {
                due("constant(" + m + ", 0)", x.constant(m, 0), n);
            }
        }
    }

    // Promise 3

    private static void referenceWithoutModule() {
        for (int m : NO_MODULES) {
            due("reference(" + m + ", 0, 0), all empty", new IncrementalLinker().reference(m, 0, 0), BAD_ARG);
            due("reference(" + m + ", 0, 0), all full", allFull().reference(m, 0, 0), BAD_ARG);
        }
    }

    private static void referenceWithoutName() {
        IncrementalLinker x = new IncrementalLinker();
        for (int name : NO_NAMES) {
            due("reference(2, " + name + ", 0)", x.reference(2, name, 0), BAD_ARG);
        }
        due("reference(2, 0, 0)", x.reference(2, 0, 0), 1);
        due("reference(2, 9, 0)", x.reference(2, 9, 0), 2);
    }

    private static void referenceWithoutAddend() {
        IncrementalLinker x = new IncrementalLinker();
        for (int addend : NO_ADDENDS) {
            due("reference(2, 0, " + addend + ")", x.reference(2, 0, addend), BAD_ARG);
        }
        due("reference(2, 0, -100)", x.reference(2, 0, -100), 1);
        due("reference(2, 0, 100)", x.reference(2, 0, 100), 2);
    }

    private static void referenceOrder() {
        IncrementalLinker x = withWords(2, 8);
        due("reference(6, 0, 0)", x.reference(6, 0, 0), BAD_ARG);
        due("reference(-1, 10, 101)", x.reference(-1, 10, 101), BAD_ARG);
        for (int name : NO_NAMES) {
            due("reference(2, " + name + ", 0), 8 words", x.reference(2, name, 0), BAD_ARG);
        }
        for (int addend : NO_ADDENDS) {
            due("reference(2, 0, " + addend + "), 8 words", x.reference(2, 0, addend), BAD_ARG);
        }
    }

    private static void referenceToFullModule() {
        for (int m = 0; m < 6; m++) {
            IncrementalLinker x = withWords(m, 8);
            due("reference(" + m + ", 1, 0), 8 words", x.reference(m, 1, 0), FULL);
            due("reference(" + m + ", 1, 0) again", x.reference(m, 1, 0), FULL);
            due("delete(" + m + ", 3)", x.delete(m, 3), 7);
            due("reference(" + m + ", 1, 0), 7 words", x.reference(m, 1, 0), 8);
            due("reference(" + m + ", 1, 0), 8 words again", x.reference(m, 1, 0), FULL);
            due("uses(1)", x.uses(1), 1);
        }
    }

    private static void referenceAnswersOneToEight() {
        for (int m = 0; m < 6; m++) {
            IncrementalLinker x = new IncrementalLinker();
            for (int n = 1; n <= 8; n++) {
                due("reference(" + m + ", 0, 0)", x.reference(m, 0, 0), n);
            }
        }
    }

    // Promise 4

    private static void patchWithoutModule() {
        IncrementalLinker x = allFull();
        for (int m : NO_MODULES) {
            due("patch(" + m + ", 0, 0)", x.patch(m, 0, 0), BAD_ARG);
            due("patch(" + m + ", -1, 0)", x.patch(m, -1, 0), BAD_ARG);
            due("patch(" + m + ", 8, 0)", x.patch(m, 8, 0), BAD_ARG);
        }
    }

    private static void patchWithoutWord() {
        for (int words = 0; words <= 8; words++) {
            IncrementalLinker x = withWords(3, words);
            fill(x, 2, 8);
            fill(x, 4, 8);
            for (int w : beside(words - 1)) {
                due("patch(3, " + w + ", 0) of " + words, x.patch(3, w, 0), NONE);
            }
        }
        IncrementalLinker y = withWords(3, 2);
        y.delete(3, 1);
        due("patch(3, 1, 0), deleted", y.patch(3, 1, 0), NONE);
        y.unload(3);
        due("patch(3, 0, 0), unloaded", y.patch(3, 0, 0), NONE);
    }

    private static void patchAnswersWhatWas() {
        IncrementalLinker x = new IncrementalLinker();
        x.reference(1, 0, 0);
        x.reference(1, 9, 0);
        x.constant(1, -1);
        x.define(1, 9, 0);
        due("patch(1, 0, -1), to an undefined name", x.patch(1, 0, -1), 1);
        due("patch(1, 0, -1), now a constant", x.patch(1, 0, -1), 0);
        due("patch(1, 1, 0), to a defined name", x.patch(1, 1, 0), 1);
        due("patch(1, 1, 0), now a constant", x.patch(1, 1, 0), 0);
        due("patch(1, 2, 0), a constant", x.patch(1, 2, 0), 0);
        x.delete(1, 2);
        x.reference(1, 5, 0);
        due("patch(1, 2, 0), where a constant was", x.patch(1, 2, 0), 1);
        x.reference(1, 5, 0);
        x.unload(1);
        fill(x, 1, 4);
        due("patch(1, 3, 0), where a reference was", x.patch(1, 3, 0), 0);
    }

    private static void patchFirstAndLast() {
        IncrementalLinker x = allFull();
        x.patch(3, 0, MIN);
        x.patch(3, 7, MAX);
        int[] near = {27, MIN, 31, 32, 33, 34, 35, 36, MAX, 40};
        for (int i = 0; i < near.length; i++) {
            due("value(" + (23 + i) + ")", x.value(23 + i), near[i]);
        }
        IncrementalLinker y = new IncrementalLinker();
        y.reference(0, 4, 0);
        y.patch(0, 0, -1);
        due("uses(4), patched away", y.uses(4), 0);
        due("undefined(), patched to -1", y.undefined(), 0);
    }

    // Promise 5

    private static void insertWithoutModule() {
        IncrementalLinker x = allFull();
        for (int m : NO_MODULES) {
            due("insert(" + m + ", 0, 0), all empty", new IncrementalLinker().insert(m, 0, 0), BAD_ARG);
            due("insert(" + m + ", 0, 0), all full", x.insert(m, 0, 0), BAD_ARG);
            due("insert(" + m + ", -1, 0)", x.insert(m, -1, 0), BAD_ARG);
            due("insert(" + m + ", 9, 0)", x.insert(m, 9, 0), BAD_ARG);
        }
    }

    private static void insertWithoutWord() {
        for (int words = 0; words < 8; words++) {
            IncrementalLinker x = withWords(3, words);
            for (int w : beside(words)) {
                due("insert(3, " + w + ", 0) of " + words, x.insert(3, w, 0), NONE);
            }
            due("insert(3, " + words + ", 0)", x.insert(3, words, 0), words + 1);
            due("insert(3, 0, 0) of 0", withWords(2, words).insert(3, 0, 0), 1);
        }
    }

    private static void insertToFullModule() {
        for (int m = 0; m < 6; m++) {
            IncrementalLinker x = withWords(m, 8);
            for (int w = 0; w <= 8; w++) {
                due("insert(" + m + ", " + w + ", 0), 8 words", x.insert(m, w, 0), FULL);
            }
            due("delete(" + m + ", 0)", x.delete(m, 0), 7);
            due("insert(" + m + ", 7, 0), 7 words", x.insert(m, 7, 0), 8);
        }
    }

    private static void insertOrder() {
        IncrementalLinker x = withWords(3, 8);
        for (int w : beside(8)) {
            due("insert(3, " + w + ", 0), 8 words", x.insert(3, w, 0), NONE);
        }
    }

    private static void insertAnswersOneToEight() {
        for (int m = 0; m < 6; m++) {
            IncrementalLinker first = new IncrementalLinker();
            IncrementalLinker last = new IncrementalLinker();
            for (int n = 1; n <= 8; n++) {
                due("insert(" + m + ", 0, 0)", first.insert(m, 0, 0), n);
                due("insert(" + m + ", " + (n - 1) + ", 0)", last.insert(m, n - 1, 0), n);
            }
        }
    }

    private static void insertMovesWords() {
        for (int w = 0; w <= 7; w++) {
            IncrementalLinker x = withWords(3, 7);
            fill(x, 2, 8);
            fill(x, 4, 8);
            x.insert(3, w, 500);
            for (int i = 0; i < 8; i++) {
                int want = i < w ? 30 + i : i == w ? 500 : 29 + i;
                due("value(" + (8 + i) + ") after insert at " + w, x.value(8 + i), want);
            }
            due("value(7), of the module before", x.value(7), 27);
            due("value(16), of the module behind", x.value(16), 40);
        }
        IncrementalLinker y = new IncrementalLinker();
        y.reference(3, 9, 100);
        y.insert(3, 0, 500);
        y.define(3, 9, 2);
        due("value(1), a reference that moved", y.value(1), 102);
        due("patch(3, 0, 0), inserted where it was", y.patch(3, 0, 0), 0);
        due("patch(3, 1, 0), a reference that moved", y.patch(3, 1, 0), 1);
    }

    private static void insertMovesDefinitionsFromWordOn() {
        for (int w = 0; w < 7; w++) {
            IncrementalLinker x = definedEverywhere(7);
            x.insert(2, w, 0);
            for (int d = 0; d < 7; d++) {
                due("undefine(2, " + d + ") after insert at " + w, x.undefine(2, d), d < w ? d : d + 1);
            }
            due("undefine(2, 9), never defined", x.undefine(2, 9), NONE);
        }
        IncrementalLinker y = definedEverywhere(3);
        y.define(1, 0, 0);
        y.constant(3, 0);
        y.define(3, 0, 1);
        y.insert(2, 0, 0);
        due("undefine(1, 0), of the module before", y.undefine(1, 0), 0);
        due("undefine(3, 0), of the module behind", y.undefine(3, 0), 1);
    }

    private static void insertMovesDefinitionsAtEnd() {
        for (int words = 0; words <= 7; words++) {
            for (int w = 0; w <= words; w++) {
                IncrementalLinker x = withWords(2, words);
                x.define(2, 9, words);
                x.insert(2, w, 0);
                due("undefine(2, 9) after insert at " + w + " of " + words, x.undefine(2, 9), words + 1);
            }
        }
    }

    // Promise 6

    private static void deleteWithoutModule() {
        IncrementalLinker x = allFull();
        for (int m : NO_MODULES) {
            due("delete(" + m + ", 0)", x.delete(m, 0), BAD_ARG);
            due("delete(" + m + ", -1)", x.delete(m, -1), BAD_ARG);
            due("delete(" + m + ", 8)", x.delete(m, 8), BAD_ARG);
        }
    }

    private static void deleteWithoutWord() {
        for (int words = 0; words <= 8; words++) {
            IncrementalLinker x = withWords(3, words);
            fill(x, 2, 8);
            fill(x, 4, 8);
            for (int w : beside(words - 1)) {
                due("delete(3, " + w + ") of " + words, x.delete(3, w), NONE);
            }
        }
    }

    private static void deleteAnswersSevenToZero() {
        for (int m = 0; m < 6; m++) {
            IncrementalLinker first = withWords(m, 8);
            IncrementalLinker last = withWords(m, 8);
            for (int n = 7; n >= 0; n--) {
                due("delete(" + m + ", 0)", first.delete(m, 0), n);
                due("delete(" + m + ", " + n + ")", last.delete(m, n), n);
            }
            due("delete(" + m + ", 0), empty", first.delete(m, 0), NONE);
        }
    }

    private static void deleteMovesWords() {
        for (int w = 0; w < 8; w++) {
            IncrementalLinker x = allFull();
            x.delete(3, w);
            for (int i = 0; i < 7; i++) {
                due("value(" + (24 + i) + ") after delete of " + w, x.value(24 + i), i < w ? 30 + i : 31 + i);
            }
            due("value(23), of the module before", x.value(23), 27);
            due("value(31), of the module behind", x.value(31), 40);
            due("size()", x.size(), 47);
        }
        IncrementalLinker y = withWords(3, 1);
        y.reference(3, 9, 100);
        y.delete(3, 0);
        y.define(3, 9, 1);
        due("value(0), a reference that moved", y.value(0), 101);
        due("patch(3, 0, 0), a reference that moved", y.patch(3, 0, 0), 1);
    }

    private static void deleteMovesDefinitionsBehind() {
        for (int w = 0; w < 8; w++) {
            IncrementalLinker x = definedEverywhere(8);
            x.delete(2, w);
            for (int d = 0; d < 8; d++) {
                if (d != w) {
                    due("undefine(2, " + d + ") after delete of " + w, x.undefine(2, d), d < w ? d : d - 1);
                }
            }
            due("undefine(2, 9), never defined", x.undefine(2, 9), NONE);
        }
        IncrementalLinker y = definedEverywhere(3);
        y.constant(1, 0);
        y.define(1, 0, 1);
        y.constant(3, 0);
        y.define(3, 0, 1);
        y.delete(2, 0);
        due("undefine(1, 0), of the module before", y.undefine(1, 0), 1);
        due("undefine(3, 0), of the module behind", y.undefine(3, 0), 1);
    }

    private static void deleteMovesDefinitionsAtEnd() {
        for (int words = 1; words <= 8; words++) {
            for (int w = 0; w < words; w++) {
                IncrementalLinker x = withWords(2, words);
                x.define(2, 9, words);
                x.delete(2, w);
                due("undefine(2, 9) after delete of " + w + " of " + words, x.undefine(2, 9), words - 1);
            }
        }
    }

    private static void deleteLeavesDefinitionsAtWord() {
        for (int words = 1; words <= 8; words++) {
            for (int w = 0; w < words; w++) {
                IncrementalLinker x = withWords(2, words);
                x.define(2, 9, w);
                x.delete(2, w);
                due("where(9) after delete of " + w + " of " + words, x.where(9), w);
                due("undefine(2, 9)", x.undefine(2, 9), w);
            }
        }
    }

    // Promise 7

    private static void unloadWithoutModule() {
        IncrementalLinker x = allFull();
        for (int m : NO_MODULES) {
            due("unload(" + m + ")", x.unload(m), BAD_ARG);
        }
        due("size()", x.size(), 48);
    }

    private static void unloadAnswersZeroToEight() {
        for (int m = 0; m < 6; m++) {
            for (int words = 0; words <= 8; words++) {
                IncrementalLinker x = withWords(m, words);
                due("unload(" + m + ")", x.unload(m), words);
                due("unload(" + m + ") again", x.unload(m), 0);
            }
        }
    }

    private static void unloadedModuleIsEmpty() {
        for (int m = 0; m < 6; m++) {
            IncrementalLinker x = allReferTo(5);
            x.unload(m);
            due("size()", x.size(), 40);
            due("uses(5)", x.uses(5), 40);
            due("undefined()", x.undefined(), 40);
            due("delete(" + m + ", 0)", x.delete(m, 0), NONE);
            due("insert(" + m + ", 1, 0)", x.insert(m, 1, 0), NONE);
            due("constant(" + m + ", 66)", x.constant(m, 66), 1);
            due("value of the new word", x.value(8 * m), 66);
        }
    }

    private static void unloadedModuleDefinesNothing() {
        for (int words = 0; words <= 8; words++) {
            IncrementalLinker x = withWords(2, words);
            for (int name = 0; name <= 9; name++) {
                x.define(1, name, 0);
                x.define(2, name, words);
                x.define(3, name, 0);
            }
            x.unload(2);
            due("idle() after unload of " + words + " words", x.idle(), 10);
            fill(x, 2, words);
            for (int name = 0; name <= 9; name++) {
                due("undefine(2, " + name + ")", x.undefine(2, name), NONE);
                due("undefine(1, " + name + ")", x.undefine(1, name), 0);
                due("undefine(3, " + name + ")", x.undefine(3, name), 0);
            }
        }
    }

    // Promise 8

    private static void defineWithoutModule() {
        for (int m : NO_MODULES) {
            due("define(" + m + ", 0, 0), all empty", new IncrementalLinker().define(m, 0, 0), BAD_ARG);
            due("define(" + m + ", 9, 8), all full", allFull().define(m, 9, 8), BAD_ARG);
        }
    }

    private static void defineWithoutName() {
        for (int m = 0; m < 6; m++) {
            IncrementalLinker x = new IncrementalLinker();
            for (int name : NO_NAMES) {
                due("define(" + m + ", " + name + ", 0)", x.define(m, name, 0), BAD_ARG);
            }
            due("define(" + m + ", 0, 0)", x.define(m, 0, 0), 0);
            due("define(" + m + ", 9, 0)", x.define(m, 9, 0), 0);
        }
    }

    private static void defineWithoutWord() {
        for (int words = 0; words <= 8; words++) {
            IncrementalLinker x = withWords(3, words);
            for (int w : beside(words)) {
                due("define(3, 0, " + w + ") of " + words, x.define(3, 0, w), NONE);
            }
            due("define(3, 0, " + words + ")", x.define(3, 0, words), 0);
            for (int w : beside(words)) {
                due("define(3, 0, " + w + "), defined before", x.define(3, 0, w), NONE);
            }
            due("where(0)", x.where(0), words);
        }
    }

    private static void defineOrder() {
        IncrementalLinker x = withWords(3, 2);
        for (int w : beside(2)) {
            due("define(6, 0, " + w + ")", x.define(6, 0, w), BAD_ARG);
            due("define(-1, 0, " + w + ")", x.define(-1, 0, w), BAD_ARG);
            due("define(3, 10, " + w + ")", x.define(3, 10, w), BAD_ARG);
            due("define(3, -1, " + w + ")", x.define(3, -1, w), BAD_ARG);
        }
    }

    private static void defineAnswersWhetherBefore() {
        IncrementalLinker x = withWords(3, 2);
        due("define(3, 0, 0)", x.define(3, 0, 0), 0);
        due("define(3, 0, 0), at the same word", x.define(3, 0, 0), 1);
        due("define(3, 0, 2), at another", x.define(3, 0, 2), 1);
        due("define(3, 9, 2), another name", x.define(3, 9, 2), 0);
        due("define(4, 0, 0), another module", x.define(4, 0, 0), 0);
        x.undefine(3, 0);
        due("define(3, 0, 0), undefined before", x.define(3, 0, 0), 0);
        x.unload(3);
        due("define(3, 9, 0), unloaded before", x.define(3, 9, 0), 0);
    }

    private static void definedNoLongerThere() {
        for (int from = 0; from <= 8; from++) {
            for (int to = 0; to <= 8; to++) {
                IncrementalLinker x = withWords(3, 8);
                x.define(3, 5, from);
                x.define(3, 5, to);
                due("where(5), defined at " + from + ", then at " + to, x.where(5), to);
                due("idle()", x.idle(), 0);
                due("undefine(3, 5)", x.undefine(3, 5), to);
                due("undefine(3, 5) again", x.undefine(3, 5), NONE);
            }
        }
    }

    // Promise 9

    private static void undefineWithoutModuleOrName() {
        IncrementalLinker x = new IncrementalLinker();
        for (int m = 0; m < 6; m++) {
            for (int name = 0; name <= 9; name++) {
                x.define(m, name, 0);
            }
        }
        for (int m : NO_MODULES) {
            due("undefine(" + m + ", 0)", x.undefine(m, 0), BAD_ARG);
            due("undefine(" + m + ", 10)", x.undefine(m, 10), BAD_ARG);
        }
        for (int name : NO_NAMES) {
            for (int m = 0; m < 6; m++) {
                due("undefine(" + m + ", " + name + ")", x.undefine(m, name), BAD_ARG);
            }
        }
        due("idle()", x.idle(), 50);
    }

    private static void undefineWhatIsNotDefined() {
        IncrementalLinker x = withWords(3, 8);
        x.define(3, 4, 8);
        due("undefine(2, 4), another module", x.undefine(2, 4), NONE);
        due("undefine(4, 4), another module", x.undefine(4, 4), NONE);
        due("undefine(3, 3), another name", x.undefine(3, 3), NONE);
        due("undefine(3, 5), another name", x.undefine(3, 5), NONE);
        due("undefine(3, 4)", x.undefine(3, 4), 8);
        due("undefine(3, 4) again", x.undefine(3, 4), NONE);
    }

    private static void undefineAnswersZeroToEight() {
        for (int w = 0; w <= 8; w++) {
            IncrementalLinker x = withWords(3, 8);
            fill(x, 2, 1);
            x.define(3, 4, w);
            due("undefine(3, 4)", x.undefine(3, 4), w);
        }
    }

    private static void undefineIsOfOneModule() {
        IncrementalLinker x = withWords(0, 3);
        x.define(0, 4, 3);
        x.define(2, 4, 0);
        x.define(0, 5, 1);
        due("undefine(2, 4), the idle one", x.undefine(2, 4), 0);
        due("where(4)", x.where(4), 3);
        x.define(5, 4, 0);
        x.constant(1, 0);
        due("undefine(0, 4), the counting one", x.undefine(0, 4), 3);
        due("where(4), the idle one counts then", x.where(4), 4);
        due("undefine(5, 4), the last one", x.undefine(5, 4), 0);
        due("where(4)", x.where(4), NONE);
        due("where(5), another name", x.where(5), 1);
    }

    // Promises 10, 11, 12

    private static void sizeIsZeroTo48() {
        IncrementalLinker x = new IncrementalLinker();
        for (int p = 0; p < 48; p++) {
            due("size()", x.size(), p);
            x.constant(p % 6, p);
        }
        due("size()", x.size(), 48);
        x.constant(5, 0);
        due("size() after a refused word", x.size(), 48);
        x.define(5, 0, 8);
        due("size(), the end defined", x.size(), 48);
        for (int m = 0; m < 6; m++) {
            x.unload(m);
        }
        due("size() of nothing", x.size(), 0);
    }

    private static void valueWithoutPlace() {
        IncrementalLinker x = new IncrementalLinker();
        x.define(0, 0, 0);
        for (int p : beside(-1)) {
            due("value(" + p + "), empty image", x.value(p), 0);
        }
        IncrementalLinker y = allFull();
        for (int p : beside(47)) {
            due("value(" + p + "), full image", y.value(p), 0);
        }
        y.delete(5, 7);
        due("value(47), deleted", y.value(47), 0);
        y.unload(0);
        due("value(39), moved away", y.value(39), 0);
    }

    private static void valueOfFirstAndLast() {
        IncrementalLinker x = allFull();
        x.patch(0, 0, MIN);
        x.patch(5, 7, MAX);
        due("value(0)", x.value(0), MIN);
        due("value(47)", x.value(47), MAX);
        for (int m = 1; m < 6; m++) {
            due("value(" + (8 * m - 1) + "), a module's last", x.value(8 * m - 1), 10 * (m - 1) + 7);
            due("value(" + 8 * m + "), the next one's first", x.value(8 * m), 10 * m);
        }
    }

    private static void addressWithoutModule() {
        for (int m : NO_MODULES) {
            due("address(" + m + "), empty image", new IncrementalLinker().address(m), BAD_ARG);
            due("address(" + m + "), full image", allFull().address(m), BAD_ARG);
        }
    }

    private static void addressOfFullModules() {
        IncrementalLinker x = allFull();
        for (int m = 0; m < 6; m++) {
            due("address(" + m + ")", x.address(m), 8 * m);
        }
        x.unload(0);
        due("address(0)", x.address(0), 0);
        due("address(1)", x.address(1), 0);
        due("address(5)", x.address(5), 32);
    }

    // Promises 18, 19

    private static void moduleOfWithoutPlace() {
        for (int p : beside(-1)) {
            due("moduleOf(" + p + "), empty image", new IncrementalLinker().moduleOf(p), NONE);
        }
        IncrementalLinker x = allFull();
        for (int p : beside(47)) {
            due("moduleOf(" + p + "), full image", x.moduleOf(p), NONE);
        }
        x.delete(0, 0);
        due("moduleOf(47), one deleted", x.moduleOf(47), NONE);
    }

    private static void moduleOfFirstAndLast() {
        IncrementalLinker x = allFull();
        for (int m = 0; m < 6; m++) {
            due("moduleOf(" + 8 * m + ")", x.moduleOf(8 * m), m);
            due("moduleOf(" + (8 * m + 7) + ")", x.moduleOf(8 * m + 7), m);
        }
        IncrementalLinker y = withWords(1, 1);
        fill(y, 4, 1);
        due("moduleOf(0), behind an empty module", y.moduleOf(0), 1);
        due("moduleOf(1), behind empty modules", y.moduleOf(1), 4);
    }

    private static void digestFromFirstToLast() {
        due("digest(), empty image", new IncrementalLinker().digest(), 0);
        due("digest(), one place", withWords(1, 1).digest(), 10);
        IncrementalLinker x = new IncrementalLinker();
        for (int p = 0; p < 48; p++) {
            x.constant(p / 8, p == 0 || p == 47 ? 1 : 0);
        }
        due("digest(), places 0 and 47", x.digest(), 1 + 48);
        IncrementalLinker y = withWords(1, 1);
        y.reference(1, 0, 100);
        due("digest(), a name not defined", y.digest(), 10 - 2);
    }

    private static void digestWraps() {
        IncrementalLinker product = new IncrementalLinker();
        product.constant(0, 0);
        product.constant(0, 1 << 30);
        due("digest(), 2 times 2 to the 30", product.digest(), MIN);
        IncrementalLinker sum = new IncrementalLinker();
        sum.constant(0, MAX);
        sum.constant(0, 1);
        due("digest(), MAX plus 2", sum.digest(), MIN + 1);
        IncrementalLinker below = new IncrementalLinker();
        below.constant(0, MIN);
        below.constant(0, -1);
        due("digest(), MIN minus 2", below.digest(), MAX - 1);
        IncrementalLinker x = new IncrementalLinker();
        for (int p = 0; p < 48; p++) {
            x.constant(p / 8, MAX);
        }
        due("digest(), 1176 times MAX", x.digest(), -1176);
    }

    // Promises 13, 14, 15

    private static void whereOfUndefinedName() {
        IncrementalLinker x = allReferTo(4);
        due("where(4), referred to", x.where(4), NONE);
        x.define(0, 3, 8);
        x.define(0, 5, 8);
        due("where(4), others defined", x.where(4), NONE);
        x.define(5, 4, 0);
        due("where(4), defined", x.where(4), 40);
        x.undefine(5, 4);
        due("where(4), undefined again", x.where(4), NONE);
    }

    private static void whereWithoutName() {
        IncrementalLinker x = new IncrementalLinker();
        for (int m = 0; m < 6; m++) {
            for (int name = 0; name <= 9; name++) {
                x.define(m, name, 0);
            }
        }
        for (int name : NO_NAMES) {
            due("where(" + name + ")", x.where(name), NONE);
        }
    }

    private static void whereIsZeroTo48() {
        IncrementalLinker x = allFull();
        for (int m = 0; m < 6; m++) {
            for (int w = 0; w <= 8; w++) {
                x.define(m, 9, w);
                due("where(9), at " + w + " of module " + m, x.where(9), 8 * m + w);
            }
            x.undefine(m, 9);
        }
    }

    private static void undefinedIsZeroTo48() {
        IncrementalLinker x = new IncrementalLinker();
        for (int p = 0; p < 48; p++) {
            due("undefined()", x.undefined(), p);
            x.reference(p / 8, p % 10, 100);
        }
        due("undefined()", x.undefined(), 48);
        for (int name = 0; name <= 9; name++) {
            x.define(5, name, 8);
        }
        due("undefined(), all defined", x.undefined(), 0);
    }

    private static void undefinedLooksAtNames() {
        IncrementalLinker x = new IncrementalLinker();
        x.reference(0, 0, -1);
        x.constant(0, -1);
        x.define(0, 0, 0);
        due("value(0)", x.value(0), -1);
        due("undefined(), a defined name and a constant with -1", x.undefined(), 0);
        x.define(5, 0, 0);
        x.undefine(0, 0);
        due("undefined(), the idle one counts then", x.undefined(), 0);
        x.unload(5);
        due("undefined(), its last module unloaded", x.undefined(), 1);
    }

    private static void idleIsZeroTo50() {
        IncrementalLinker x = new IncrementalLinker();
        for (int m = 0; m < 6; m++) {
            for (int name = 0; name <= 9; name++) {
                x.define(m, name, 0);
                due("idle()", x.idle(), m == 0 ? 0 : 10 * (m - 1) + name + 1);
            }
        }
        x.unload(0);
        due("idle(), the counting module unloaded", x.idle(), 40);
        for (int m = 2; m < 6; m++) {
            x.unload(m);
        }
        due("idle(), one module defines all", x.idle(), 0);
    }

    // Promises 16, 17

    private static void usesWithoutName() {
        IncrementalLinker x = allReferTo(0);
        x.unload(5);
        fill(x, 5, 8);
        for (int name : NO_NAMES) {
            due("uses(" + name + ")", x.uses(name), BAD_ARG);
        }
    }

    private static void usesIsZeroTo48() {
        for (int name = 0; name <= 9; name += 9) {
            IncrementalLinker x = new IncrementalLinker();
            for (int p = 0; p < 48; p++) {
                due("uses(" + name + ")", x.uses(name), p);
                x.reference(p / 8, name, 0);
            }
            due("uses(" + name + ")", x.uses(name), 48);
            x.define(0, name, 0);
            due("uses(" + name + "), defined", x.uses(name), 48);
            due("uses(5), another name", x.uses(5), 0);
        }
    }

    private static void usersWithoutModule() {
        IncrementalLinker x = allReferTo(3);
        x.define(0, 3, 0);
        for (int m : NO_MODULES) {
            due("users(" + m + ")", x.users(m), BAD_ARG);
        }
    }

    private static void usersIsZeroTo63() {
        IncrementalLinker x = new IncrementalLinker();
        x.define(5, 3, 0);
        due("users(5), none", x.users(5), 0);
        int set = 0;
        int power = 1;
        for (int m = 0; m < 6; m++) {
            x.reference(m, 3, 0);
            set += power;
            power *= 2;
            due("users(5), modules 0 to " + m, x.users(5), set);
        }
        due("users(5), itself among them", x.users(5), 63);
        for (int m = 0; m < 6; m++) {
            IncrementalLinker y = new IncrementalLinker();
            y.define(2, 0, 0);
            y.reference(m, 0, 0);
            due("users(2), module " + m + " alone", y.users(2), (int) Math.pow(2, m));
        }
    }

    private static void usersCountsAModuleOnce() {
        IncrementalLinker x = new IncrementalLinker();
        for (int name = 0; name <= 9; name++) {
            x.define(0, name, 0);
        }
        for (int w = 0; w < 8; w++) {
            x.reference(4, w / 2, 0);
        }
        due("users(0), two references to each of four names", x.users(0), 16);
        x.patch(4, 0, 0);
        due("users(0), one of them patched", x.users(0), 16);
        x.reference(2, 9, 0);
        due("users(0), a single reference in another module", x.users(0), 4 + 16);
        x.unload(4);
        due("users(0), module 4 unloaded", x.users(0), 4);
    }

    private static void usersOfCountingOnly() {
        IncrementalLinker x = allReferTo(3);
        due("users(2), not defined", x.users(2), 0);
        x.define(4, 3, 8);
        x.define(2, 3, 8);
        due("users(2), the counting one", x.users(2), 63);
        due("users(4), the idle one", x.users(4), 0);
        x.undefine(2, 3);
        due("users(2), no longer defined", x.users(2), 0);
        due("users(4), the counting one then", x.users(4), 63);
    }

    // Promise 20

    private static void constantLeavesEnd() {
        for (int words = 0; words <= 7; words++) {
            IncrementalLinker x = withWords(2, words);
            x.define(2, 9, words);
            due("constant(2, 5)", x.constant(2, 5), words + 1);
            due("undefine(2, 9), defined at the end of " + words, x.undefine(2, 9), words);
        }
        IncrementalLinker y = withWords(2, 8);
        y.define(2, 9, 8);
        due("constant(2, 5), 8 words", y.constant(2, 5), FULL);
        due("undefine(2, 9), defined at the end of 8", y.undefine(2, 9), 8);
    }

    private static void referenceLeavesEnd() {
        for (int words = 0; words <= 7; words++) {
            IncrementalLinker x = withWords(2, words);
            x.define(2, 9, words);
            due("reference(2, 9, 5)", x.reference(2, 9, 5), words + 1);
            due("undefine(2, 9), defined at the end of " + words, x.undefine(2, 9), words);
        }
        IncrementalLinker y = withWords(2, 8);
        y.define(2, 9, 8);
        due("reference(2, 9, 5), 8 words", y.reference(2, 9, 5), FULL);
        due("undefine(2, 9), defined at the end of 8", y.undefine(2, 9), 8);
    }

    private static void endIsAtAppendedWord() {
        IncrementalLinker x = withWords(0, 8);
        x.define(2, 9, 0);
        x.constant(2, 70);
        due("value(where(9)), the appended constant", x.value(x.where(9)), 70);
        x.insert(2, 0, 71);
        due("value(where(9)), moved on with its word", x.value(x.where(9)), 70);
        x.define(2, 8, 2);
        x.reference(2, 8, -100);
        due("value(where(8)), the appended reference to itself", x.value(x.where(8)), 10 - 100);
        x.delete(2, 2);
        x.constant(2, 72);
        due("value(where(8)), at the end after delete, then at the appended word", x.value(x.where(8)), 72);
    }
}
