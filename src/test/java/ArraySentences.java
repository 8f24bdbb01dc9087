/** Promises 28 to 33, sentence by sentence: arrays and the snapshot. */
final class ArraySentences {
    private static final int MAX = Integer.MAX_VALUE;
    private static final int MIN = Integer.MIN_VALUE;

    private ArraySentences() {
    }

    static void ask() {
        arraysAreCreated();
        newElementsAreZero();
        arraysOfNewArray();
        sizesOfNewArray();
        negativeSizes();
        elementsAreSet();
        arraysOfSetElement();
        missingArraysOfSetElement();
        indexesOfSetElement();
        elementsAreRead();
        elementsThatThereAreNot();
        sumsOfPrefixes();
        elementsBehindStay();
        arraysAndRegistersOfPrefixSums();
        missingArraysOfPrefixSums();
        arraysThatAreTooShort();
        snapshotsAreSaved();
        earlierSnapshotsAreReplaced();
        lettersOfASnapshot();
        snapshotsAreRestoredAndKept();
        lettersOfARestoredSnapshot();
        noSnapshot();
    }

    private static void hasSize(AbelianPowers x, int array, int size) {
        for (int i = 0; i < size; i++) {
            Due.is("element(" + array + ", " + i + ")", x.element(array, i), 0);
        }
        Due.is("no element " + size, x.element(array, size), Long.MIN_VALUE);
        Due.is("no element " + size + " to set", x.setElement(array, size, 1), -13);
    }

    // ---- promise 28

    private static void arraysAreCreated() {
        Doc.says(28, "Creates an array of longs in place of one of three arrays, which are missing at first.", "Returns 1");
        AbelianPowers x = new AbelianPowers();
        Due.all("setElement of a missing array", -11, a -> x.setElement(a, 0, 1), 0, 1, 2);
        for (int a = 0; a < 3; a++) {
            Due.is("newArray(" + a + ", 2)", x.newArray(a, 2), 1);
            hasSize(x, a, 2);
        }
        x.setElement(0, 1, 5);
        Due.is("a new array in place of the first", x.newArray(1, 5), 1);
        hasSize(x, 1, 5);
        Due.is("the others stay", x.element(0, 1), 5);
        hasSize(x, 2, 2);
    }

    private static void newElementsAreZero() {
        Doc.says(28, "All elements are 0.");
        AbelianPowers x = new AbelianPowers();
        x.newArray(1, 41);
        for (int i = 0; i < 41; i++) {
            x.setElement(1, i, -1L - i);
        }
        x.newArray(1, 3);
        hasSize(x, 1, 3);
        x.newArray(1, 41);
        hasSize(x, 1, 41);
    }

    private static void arraysOfNewArray() {
        Doc.says(28, "`array`: the array, 0 to 2", "BAD_ARGUMENT if there is no such array or size is greater than 41");
        AbelianPowers x = new AbelianPowers();
        Due.all("newArray", -1, a -> x.newArray(a, 1), Due.outside(0, 2));
        Due.all("newArray of a negative size", -1, a -> x.newArray(a, -1), Due.outside(0, 2));
        Due.all("newArray of a great size", -1, a -> x.newArray(a, 42), Due.outside(0, 2));
        Due.all("all are still missing", -11, a -> x.setElement(a, 0, 1), 0, 1, 2);
        Due.all("newArray", 1, a -> x.newArray(a, 1), 0, 1, 2);
    }

    private static void sizesOfNewArray() {
        Doc.says(28, "`size`: the number of elements, 0 to 41", "size is greater than 41");
        AbelianPowers x = new AbelianPowers();
        Due.is("newArray(0, 41)", x.newArray(0, 41), 1);
        hasSize(x, 0, 41);
        x.setElement(0, 40, 7);
        Due.all("newArray", -1, size -> x.newArray(0, size), 42, 43, 41 + 256, MAX);
        Due.is("the array stays", x.element(0, 40), 7);
        Due.is("newArray(0, 0)", x.newArray(0, 0), 1);
        hasSize(x, 0, 0);
        Due.is("an empty array is not missing", x.setElement(0, 0, 1), -13);
    }

    private static void negativeSizes() {
        Doc.says(28, "NEGATIVE_SIZE if size is negative.");
        AbelianPowers x = new AbelianPowers();
        Due.all("newArray", -14, size -> x.newArray(2, size), -1, -2, -41, MIN, MIN + 1);
        Due.is("the array is still missing", x.setElement(2, 0, 1), -11);
        x.newArray(2, 1);
        x.setElement(2, 0, 9);
        Due.all("newArray", -14, size -> x.newArray(2, size), -1, MIN);
        Due.is("the array stays", x.element(2, 0), 9);
    }

    // ---- promise 29

    private static void elementsAreSet() {
        Doc.says(29, "Sets an element of an array.", "`value`: the value, any long", "Returns 1");
        AbelianPowers x = new AbelianPowers();
        x.newArray(0, 3);
        x.newArray(1, 3);
        long[] values = {Long.MIN_VALUE, Long.MAX_VALUE, -1, 0, 1, 1L << 32, (1L << 40) + 5};
        for (long value : values) {
            Due.is("setElement(0, 1, " + value + ")", x.setElement(0, 1, value), 1);
            Due.elementsAre(x, 0, 0, value, 0);
            Due.elementsAre(x, 1, 0, 0, 0);
        }
    }

    private static void arraysOfSetElement() {
        Doc.says(29, "`array`: the array", "BAD_ARGUMENT");
        AbelianPowers x = new AbelianPowers();
        Due.all("setElement", -1, a -> x.setElement(a, 0, 1), Due.outside(0, 2));
        Due.all("setElement without array and index", -1, a -> x.setElement(a, -1, 1), Due.outside(0, 2));
        for (int a = 0; a < 3; a++) {
            x.newArray(a, 1);
            Due.is("setElement(" + a + ", 0, 1)", x.setElement(a, 0, 1), 1);
        }
    }

    private static void missingArraysOfSetElement() {
        Doc.says(29, "NULL_ARRAY");
        AbelianPowers x = new AbelianPowers();
        x.newArray(1, 1);
        Due.all("setElement of a missing array", -11, a -> x.setElement(a, 0, 1), 0, 2);
        Due.all("it goes before a wrong index", -11, i -> x.setElement(0, i, 1), -1, 1, 41, MIN, MAX);
        Due.is("it is still missing", x.element(0, 0), Long.MIN_VALUE);
    }

    private static void indexesOfSetElement() {
        Doc.says(29, "`i`: the index", "INDEX_OUT_OF_RANGE.");
        AbelianPowers x = new AbelianPowers();
        for (int size = 0; size <= 41; size++) {
            x.newArray(0, size);
            Due.is("index -1 of " + size, x.setElement(0, -1, 3), -13);
            Due.is("index " + size + " of " + size, x.setElement(0, size, 3), -13);
            if (size > 0) {
                Due.is("index 0 of " + size, x.setElement(0, 0, 3), 1);
                Due.is("the last index of " + size, x.setElement(0, size - 1, 3), 1);
            }
        }
        Due.all("setElement", -13, i -> x.setElement(0, i, 3), Due.outside(0, 40));
    }

    // ---- promise 30

    private static void elementsAreRead() {
        Doc.says(30, "Returns an element of an array.", "Returns the element");
        AbelianPowers x = new AbelianPowers();
        for (int a = 0; a < 3; a++) {
            x.newArray(a, 41);
            x.setElement(a, 0, 100 + a);
            x.setElement(a, 40, 200 + a);
        }
        for (int a = 0; a < 3; a++) {
            Due.is("the first element", x.element(a, 0), 100 + a);
            Due.is("the second element", x.element(a, 1), 0);
            Due.is("the last element", x.element(a, 40), 200 + a);
        }
    }

    private static void elementsThatThereAreNot() {
        Doc.says(30, "`array`: the array", "`i`: the index",
            "Long.MIN_VALUE if there is no such array, it is missing, or it has no such element.");
        AbelianPowers x = new AbelianPowers();
        x.newArray(1, 3);
        x.newArray(2, 0);
        for (int a : Due.outside(0, 2)) {
            Due.is("element(" + a + ", 0)", x.element(a, 0), Long.MIN_VALUE);
        }
        Due.is("a missing array", x.element(0, 0), Long.MIN_VALUE);
        for (int i : Due.outside(0, 2)) {
            Due.is("element(1, " + i + ")", x.element(1, i), Long.MIN_VALUE);
        }
        Due.is("an empty array", x.element(2, 0), Long.MIN_VALUE);
        Due.elementsAre(x, 1, 0, 0, 0);
    }

    // ---- promise 31

    private static void sumsOfPrefixes() {
        Doc.says(31, "Sets the elements of an array to the sums of the values of the letters of all prefixes of a word: "
            + "element n to the sum for the prefix of n letters.", "Returns the number of elements that were set");
        AbelianPowers x = new AbelianPowers();
        x.setValue(0, 9);
        x.setValue(1, -9);
        Due.word(x, 0, "aabc");
        x.newArray(2, 41);
        Due.is("prefixSums(2, 0)", x.prefixSums(2, 0), 5);
        Due.elementsAre(x, 2, 0, 9, 18, 9, 11);
        Due.word(x, 1, "a".repeat(40));
        Due.is("a full word", x.prefixSums(2, 1), 41);
        Due.is("the greatest sum", x.element(2, 40), 360);
        Due.word(x, 1, "b".repeat(40));
        Due.is("a full word", x.prefixSums(2, 1), 41);
        Due.is("the smallest sum", x.element(2, 40), -360);
        x.newArray(0, 1);
        x.setElement(0, 0, 5);
        Due.is("an empty word", x.prefixSums(0, 2), 1);
        Due.elementsAre(x, 0, 0);
        Due.textIs(x, 0, "aabc");
    }

    private static void elementsBehindStay() {
        Doc.says(31, "Elements behind that for the whole word stay.");
        AbelianPowers x = new AbelianPowers();
        Due.word(x, 0, "cc");
        x.newArray(0, 5);
        for (int i = 0; i < 5; i++) {
            x.setElement(0, i, 10 + i);
        }
        Due.is("prefixSums(0, 0)", x.prefixSums(0, 0), 3);
        Due.elementsAre(x, 0, 0, 2, 4, 13, 14);
        Due.is("prefixSums of an empty word", x.prefixSums(0, 1), 1);
        Due.elementsAre(x, 0, 0, 2, 4, 13, 14);
    }

    private static void arraysAndRegistersOfPrefixSums() {
        Doc.says(31, "`array`: the array", "`word`: the word register", "BAD_ARGUMENT");
        AbelianPowers x = new AbelianPowers();
        x.newArray(0, 1);
        x.setElement(0, 0, 6);
        Due.all("prefixSums of no array", -1, a -> x.prefixSums(a, 0), Due.outside(0, 2));
        Due.all("prefixSums of no register", -1, w -> x.prefixSums(0, w), Due.outside(0, 2));
        Due.all("it goes before a missing array", -1, w -> x.prefixSums(1, w), Due.outside(0, 2));
        Due.elementsAre(x, 0, 6);
        Due.all("prefixSums", 1, w -> x.prefixSums(0, w), 0, 1, 2);
    }

    private static void missingArraysOfPrefixSums() {
        Doc.says(31, "NULL_ARRAY");
        AbelianPowers x = new AbelianPowers();
        Due.word(x, 0, "abc");
        Due.all("prefixSums of a missing array", -11, a -> x.prefixSums(a, 0), 0, 1, 2);
        x.newArray(1, 4);
        Due.all("prefixSums of a missing array", -11, a -> x.prefixSums(a, 0), 0, 2);
        Due.is("prefixSums(1, 0)", x.prefixSums(1, 0), 4);
    }

    private static void arraysThatAreTooShort() {
        Doc.says(31, "INDEX_OUT_OF_RANGE if the array has fewer elements than the word has prefixes, the empty one included",
            "the array is unchanged then.");
        for (int n = 0; n <= 40; n++) {
            AbelianPowers x = new AbelianPowers();
            Due.word(x, 0, "b".repeat(n));
            x.newArray(0, n);
            for (int i = 0; i < n; i++) {
                x.setElement(0, i, 100 + i);
            }
            Due.is("an array of " + n + " for " + n + " letters", x.prefixSums(0, 0), -13);
            for (int i = 0; i < n; i++) {
                Due.is("element(0, " + i + ")", x.element(0, i), 100 + i);
            }
            x.newArray(0, n + 1);
            Due.is("an array of one more", x.prefixSums(0, 0), n + 1);
            Due.is("its last element", x.element(0, n), n);
        }
    }

    // ---- promises 32 and 33

    private static AbelianPowers filled() {
        AbelianPowers x = Due.withProblem("additive 3 4");
        for (int i = 0; i < 4; i++) {
            x.setValue(i, 9 - 6 * i);
        }
        Due.word(x, 0, "dcba");
        Due.word(x, 2, "a".repeat(40));
        Due.morphism(x, "abcd", "b");
        Due.image(x, "d:da");
        return x;
    }

    private static void isFilled(AbelianPowers x) {
        Due.is("problem(0)", x.problem(0), 2);
        Due.is("problem(1)", x.problem(1), 3);
        Due.is("problem(2)", x.problem(2), 4);
        Due.textIs(x, 0, "dcba");
        Due.textIs(x, 1, "");
        Due.textIs(x, 2, "a".repeat(40));
        x.newArray(2, 5);
        x.prefixSums(2, 0);
        Due.elementsAre(x, 2, 0, -9, -12, -9, 0);
        String[] images = {"abcd", "b", "", "da"};
        for (int i = 0; i < 4; i++) {
            Due.is("imageLength(" + i + ")", x.imageLength(i), images[i].length());
            Due.same("the image of " + i, Due.imageText(x, i), images[i]);
        }
    }

    /** Changes all that a snapshot saves. */
    private static void spoil(AbelianPowers x) {
        for (int w = 0; w < 3; w++) {
            Due.word(x, w, "bb");
        }
        for (int i = 0; i < 4; i++) {
            x.setValue(i, 1);
        }
        Due.morphism(x, "d", "dd", "ddd", "dddd");
        Due.problem(x, "mixed 4 4");
    }

    private static void snapshotsAreSaved() {
        Doc.says(32, "Saves the problem, the values, the words and the images");
        AbelianPowers x = filled();
        x.saveSnapshot();
        isFilled(x);
        spoil(x);
        x.restoreSnapshot();
        isFilled(x);
        Due.problem(x, "equal 2 2");
        x.restoreSnapshot();
        isFilled(x);
    }

    private static void earlierSnapshotsAreReplaced() {
        Doc.says(32, "Saves the problem, the values, the words and the images, in place of an earlier snapshot.");
        AbelianPowers x = new AbelianPowers();
        Due.word(x, 1, "abc");
        Due.morphism(x, "a", "bb", "ccc");
        x.saveSnapshot();
        Due.problem(x, "mixed 4 2");
        x.saveSnapshot();
        Due.word(x, 1, "b");
        x.restoreSnapshot();
        Due.is("problem(2)", x.problem(2), 2);
        Due.textIs(x, 1, "");
        Due.all("imageLength", 0, x::imageLength, 0, 1);
    }

    private static void lettersOfASnapshot() {
        Doc.says(32, "Returns the number of letters of all three words.");
        AbelianPowers x = new AbelianPowers();
        Due.is("no letters", x.saveSnapshot(), 0);
        Due.word(x, 2, "abc");
        Due.is("three letters", x.saveSnapshot(), 3);
        Due.word(x, 0, "a".repeat(40));
        Due.is("43 letters", x.saveSnapshot(), 43);
        Due.word(x, 1, "b".repeat(40));
        Due.word(x, 2, "c".repeat(40));
        Due.is("three full words", x.saveSnapshot(), 120);
    }

    private static void snapshotsAreRestoredAndKept() {
        Doc.says(33, "Restores what was saved by the latest snapshot, which is kept.");
        AbelianPowers x = filled();
        x.saveSnapshot();
        for (int i = 0; i < 2; i++) {
            spoil(x);
            x.restoreSnapshot();
            isFilled(x);
        }
        arraysInputAndClosureAreNotRestored();
    }

    private static void arraysInputAndClosureAreNotRestored() {
        AbelianPowers x = Due.withMorphism(2, "a", "b");
        x.computeClosure();
        x.saveSnapshot();
        Due.morphism(x, "aa", "b");
        Due.is("another closure", x.computeClosure(), 121);
        x.newArray(0, 1);
        x.setElement(0, 0, 4);
        x.feed('b');
        x.restoreSnapshot();
        Due.that("the closure stays", x.template(120, 0) > 0);
        Due.is("the array stays", x.element(0, 0), 4);
        Due.is("the input stays", x.feed(':'), 2);
        Due.same("the image is restored", Due.imageText(x, 0), "a");
    }

    private static void lettersOfARestoredSnapshot() {
        Doc.says(33, "Returns the number of letters of all three words");
        AbelianPowers x = new AbelianPowers();
        x.saveSnapshot();
        Due.word(x, 0, "abc");
        Due.is("no letters", x.restoreSnapshot(), 0);
        for (int w = 0; w < 3; w++) {
            Due.word(x, w, "c".repeat(40));
        }
        x.saveSnapshot();
        Due.all("clearWord", 40, x::clearWord, 0, 1, 2);
        Due.is("three full words", x.restoreSnapshot(), 120);
        Due.is("three full words again", x.restoreSnapshot(), 120);
        Due.all("length", 40, x::length, 0, 1, 2);
    }

    private static void noSnapshot() {
        Doc.says(33, "NONE if no snapshot was saved.");
        AbelianPowers x = new AbelianPowers();
        Due.is("restoreSnapshot()", x.restoreSnapshot(), -2);
        Due.word(x, 0, "abc");
        Due.is("restoreSnapshot() again", x.restoreSnapshot(), -2);
        Due.textIs(x, 0, "abc");
        x.saveSnapshot();
        Due.is("a saved one", x.restoreSnapshot(), 3);
    }
}
