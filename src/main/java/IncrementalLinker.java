public final class IncrementalLinker {
    public static final int BAD_ARG = -1;
    public static final int FULL = -2;
    public static final int NONE = -4;

    private static final int MODULES = 6;
    private static final int MODULE_WORDS = 8;
    private static final int NAMES = 10;
    private static final int MAX_ADDEND = 100;
    private static final int ALL_WORDS = MODULES * MODULE_WORDS;
    private static final int ALL_DEFINITIONS = MODULES * NAMES;

    // Stands where a name, a module or a word's number would stand; these are never below 0.
    private static final int ABSENT = -1;
    private static final int UNDEFINED_VALUE = -1;

    private final int[] wordCount = new int[MODULES];
    // The name that a word refers to; ABSENT marks a constant.
    private final int[] wordName = new int[ALL_WORDS];
    // The constant itself, or the addend of a reference.
    private final int[] wordNumber = new int[ALL_WORDS];
    // The word at which a module defines a name; ABSENT if it does not.
    private final int[] definedAt = new int[ALL_DEFINITIONS];

    public IncrementalLinker() {
        for (int i = 0; i < ALL_DEFINITIONS; i++) {
            definedAt[i] = ABSENT;
        }
    }

    public int constant(int m, int v) {
        if (!isModule(m)) {
            return BAD_ARG;
        }
        return append(m, ABSENT, v);
    }

    public int reference(int m, int name, int addend) {
        if (!isModule(m) || !isName(name) || !isAddend(addend)) {
            return BAD_ARG;
        }
        return append(m, name, addend);
    }

    public int patch(int m, int w, int v) {
        if (!isModule(m)) {
            return BAD_ARG;
        }
        if (!hasWord(m, w)) {
            return NONE;
        }
        int slot = wordSlot(m, w);
        int wasReference = wordName[slot] == ABSENT ? 0 : 1;
        setWord(slot, ABSENT, v);
        return wasReference;
    }

    public int insert(int m, int w, int v) {
        if (!isModule(m)) {
            return BAD_ARG;
        }
        if (!hasWordOrEnd(m, w)) {
            return NONE;
        }
        if (isFull(m)) {
            return FULL;
        }
        openGap(m, w);
        moveDefinitions(m, w, 1);
        int slot = wordSlot(m, w);
        setWord(slot, ABSENT, v);
        wordCount[m]++;
        return wordCount[m];
    }

    public int delete(int m, int w) {
        if (!isModule(m)) {
            return BAD_ARG;
        }
        if (!hasWord(m, w)) {
            return NONE;
        }
        closeGap(m, w);
        moveDefinitions(m, w + 1, -1);
        wordCount[m]--;
        return wordCount[m];
    }

    public int unload(int m) {
        if (!isModule(m)) {
            return BAD_ARG;
        }
        int had = wordCount[m];
        wordCount[m] = 0;
        for (int name = 0; name < NAMES; name++) {
            definedAt[definitionSlot(m, name)] = ABSENT;
        }
        return had;
    }

    public int define(int m, int name, int w) {
        if (!isModule(m) || !isName(name)) {
            return BAD_ARG;
        }
        if (!hasWordOrEnd(m, w)) {
            return NONE;
        }
        int slot = definitionSlot(m, name);
        int wasDefined = definedAt[slot] == ABSENT ? 0 : 1;
        definedAt[slot] = w;
        return wasDefined;
    }

    public int undefine(int m, int name) {
        if (!isModule(m) || !isName(name)) {
            return BAD_ARG;
        }
        int slot = definitionSlot(m, name);
        int w = definedAt[slot];
        if (w == ABSENT) {
            return NONE;
        }
        definedAt[slot] = ABSENT;
        return w;
    }

    public int size() {
        return wordsBefore(MODULES);
    }

    public int value(int place) {
        int m = moduleAt(place);
        if (m == ABSENT) {
            return 0;
        }
        int w = place - wordsBefore(m);
        return wordValue(m, w);
    }

    public int address(int m) {
        if (!isModule(m)) {
            return BAD_ARG;
        }
        return wordsBefore(m);
    }

    public int where(int name) {
        if (!isName(name)) {
            return NONE;
        }
        int m = countingModule(name);
        if (m == ABSENT) {
            return NONE;
        }
        return nameAddress(m, name);
    }

    public int undefined() {
        int places = 0;
        for (int name = 0; name < NAMES; name++) {
            if (countingModule(name) == ABSENT) {
                places += referencesTo(name);
            }
        }
        return places;
    }

    public int idle() {
        int idle = 0;
        for (int name = 0; name < NAMES; name++) {
            int definitions = definitionsOf(name);
            if (definitions > 1) {
                idle += definitions - 1;
            }
        }
        return idle;
    }

    public int uses(int name) {
        if (!isName(name)) {
            return BAD_ARG;
        }
        return referencesTo(name);
    }

    public int users(int m) {
        if (!isModule(m)) {
            return BAD_ARG;
        }
        int set = 0;
        for (int name = 0; name < NAMES; name++) {
            if (countingModule(name) == m) {
                set |= modulesReferringTo(name);
            }
        }
        return set;
    }

    public int moduleOf(int place) {
        int m = moduleAt(place);
        return m == ABSENT ? NONE : m;
    }

    public int digest() {
        int sum = 0;
        int place = 0;
        for (int m = 0; m < MODULES; m++) {
            for (int w = 0; w < wordCount[m]; w++) {
                sum += (place + 1) * wordValue(m, w);
                place++;
            }
        }
        return sum;
    }

    private static boolean isModule(int m) {
        return m >= 0 && m < MODULES;
    }

    private static boolean isName(int name) {
        return name >= 0 && name < NAMES;
    }

    private static boolean isAddend(int addend) {
        return addend >= -MAX_ADDEND && addend <= MAX_ADDEND;
    }

    private static int wordSlot(int m, int w) {
        return m * MODULE_WORDS + w;
    }

    private static int definitionSlot(int m, int name) {
        return m * NAMES + name;
    }

    private boolean hasWord(int m, int w) {
        return w >= 0 && w < wordCount[m];
    }

    private boolean hasWordOrEnd(int m, int w) {
        return w >= 0 && w <= wordCount[m];
    }

    private boolean isFull(int m) {
        return wordCount[m] >= MODULE_WORDS;
    }

    private void setWord(int slot, int name, int number) {
        wordName[slot] = name;
        wordNumber[slot] = number;
    }

    // Leaves the definitions alone: one at the end is at the appended word then.
    private int append(int m, int name, int number) {
        if (isFull(m)) {
            return FULL;
        }
        int slot = wordSlot(m, wordCount[m]);
        setWord(slot, name, number);
        wordCount[m]++;
        return wordCount[m];
    }

    // From the last word down, so that no word is written over before it has moved.
    private void openGap(int m, int w) {
        for (int i = wordCount[m]; i > w; i--) {
            int slot = wordSlot(m, i);
            setWord(slot, wordName[slot - 1], wordNumber[slot - 1]);
        }
    }

    private void closeGap(int m, int w) {
        for (int i = w + 1; i < wordCount[m]; i++) {
            int slot = wordSlot(m, i);
            setWord(slot - 1, wordName[slot], wordNumber[slot]);
        }
    }

    // The first word is never below 0, so that ABSENT is not moved.
    private void moveDefinitions(int m, int firstWord, int distance) {
        for (int name = 0; name < NAMES; name++) {
            int slot = definitionSlot(m, name);
            if (definedAt[slot] >= firstWord) {
                definedAt[slot] += distance;
            }
        }
    }

    private int wordsBefore(int m) {
        int words = 0;
        for (int i = 0; i < m; i++) {
            words += wordCount[i];
        }
        return words;
    }

    private int moduleAt(int place) {
        if (place < 0) {
            return ABSENT;
        }
        int end = 0;
        for (int m = 0; m < MODULES; m++) {
            end += wordCount[m];
            if (place < end) {
                return m;
            }
        }
        return ABSENT;
    }

    private int countingModule(int name) {
        for (int m = 0; m < MODULES; m++) {
            if (definedAt[definitionSlot(m, name)] != ABSENT) {
                return m;
            }
        }
        return ABSENT;
    }

    private int nameAddress(int m, int name) {
        return wordsBefore(m) + definedAt[definitionSlot(m, name)];
    }

    private int wordValue(int m, int w) {
        int slot = wordSlot(m, w);
        int name = wordName[slot];
        if (name == ABSENT) {
            return wordNumber[slot];
        }
        int definer = countingModule(name);
        if (definer == ABSENT) {
            return UNDEFINED_VALUE;
        }
        return nameAddress(definer, name) + wordNumber[slot];
    }

    private int definitionsOf(int name) {
        int definitions = 0;
        for (int m = 0; m < MODULES; m++) {
            if (definedAt[definitionSlot(m, name)] != ABSENT) {
                definitions++;
            }
        }
        return definitions;
    }

    private int referencesIn(int m, int name) {
        int references = 0;
        for (int w = 0; w < wordCount[m]; w++) {
            if (wordName[wordSlot(m, w)] == name) {
                references++;
            }
        }
        return references;
    }

    private int referencesTo(int name) {
        int references = 0;
        for (int m = 0; m < MODULES; m++) {
            references += referencesIn(m, name);
        }
        return references;
    }

    private int modulesReferringTo(int name) {
        int set = 0;
        for (int m = 0; m < MODULES; m++) {
            if (referencesIn(m, name) > 0) {
                set |= 1 << m;
            }
        }
        return set;
    }
}
