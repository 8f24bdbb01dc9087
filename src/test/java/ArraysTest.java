/** Promises 28 to 33: arrays and the snapshot. */
public final class ArraysTest {
    public static void main(String[] args) {
        arraysAreMade();
        elementsAreSetAndRead();
        sumsOfPrefixes();
        errorsOfPrefixSums();
        snapshotsAreRestored();
        snapshotsAreReplacedAndKept();
        snapshotsLeaveTheRest();
        Due.end();
    }

    /** Promise 28. */
    private static void arraysAreMade() {
        AbelianPowers x = new AbelianPowers();
        Due.is("newArray(0, 0)", x.newArray(0, 0), 1);
        Due.is("it has no elements", x.setElement(0, 0, 1), -13);
        Due.is("newArray(2, 41)", x.newArray(2, 41), 1);
        for (int i = 0; i < 41; i++) {
            Due.is("element(2, " + i + ")", x.element(2, i), 0);
            x.setElement(2, i, i + 1);
        }
        Due.is("newArray(2, 42)", x.newArray(2, 42), -1);
        Due.is("newArray(2, -1)", x.newArray(2, -1), -14);
        Due.is("newArray(2, MIN)", x.newArray(2, Integer.MIN_VALUE), -14);
        Due.is("newArray(2, MAX)", x.newArray(2, Integer.MAX_VALUE), -1);
        Due.is("newArray(3, 1)", x.newArray(3, 1), -1);
        Due.is("newArray(-1, 1)", x.newArray(-1, 1), -1);
        Due.is("no array goes before a negative size", x.newArray(3, -1), -1);
        Due.is("the array stays", x.element(2, 40), 41);
        Due.is("newArray(2, 2)", x.newArray(2, 2), 1);
        Due.elementsAre(x, 2, 0, 0);
        Due.is("it is shorter", x.element(2, 2), Long.MIN_VALUE);
        Due.is("newArray(2, 41) again", x.newArray(2, 41), 1);
        Due.is("all its elements are 0", x.element(2, 40), 0);
        Due.is("another array is missing", x.setElement(1, 0, 1), -11);
    }

    /** Promises 29 and 30. */
    private static void elementsAreSetAndRead() {
        AbelianPowers x = new AbelianPowers();
        Due.is("a missing array", x.setElement(0, 0, 1), -11);
        Due.is("a missing array goes before a wrong index", x.setElement(0, -1, 1), -11);
        Due.is("element of a missing array", x.element(0, 0), Long.MIN_VALUE);
        Due.is("no array", x.setElement(3, 0, 1), -1);
        Due.is("no array -1", x.setElement(-1, 0, 1), -1);
        Due.is("element of no array", x.element(3, 0), Long.MIN_VALUE);
        Due.is("element of no array -1", x.element(-1, 0), Long.MIN_VALUE);
        x.newArray(0, 3);
        x.newArray(1, 3);
        Due.is("setElement(0, 2, MAX)", x.setElement(0, 2, Long.MAX_VALUE), 1);
        Due.is("element(0, 2)", x.element(0, 2), Long.MAX_VALUE);
        Due.is("setElement(0, 0, MIN)", x.setElement(0, 0, Long.MIN_VALUE), 1);
        Due.is("element(0, 0)", x.element(0, 0), Long.MIN_VALUE);
        Due.is("setElement(0, 1, -7)", x.setElement(0, 1, -7), 1);
        Due.is("element(0, 1)", x.element(0, 1), -7);
        Due.is("setElement(0, 3, 1)", x.setElement(0, 3, 1), -13);
        Due.is("setElement(0, -1, 1)", x.setElement(0, -1, 1), -13);
        Due.is("setElement(0, MAX, 1)", x.setElement(0, Integer.MAX_VALUE, 1), -13);
        Due.is("setElement(0, MIN, 1)", x.setElement(0, Integer.MIN_VALUE, 1), -13);
        Due.is("element(0, 3)", x.element(0, 3), Long.MIN_VALUE);
        Due.is("element(0, -1)", x.element(0, -1), Long.MIN_VALUE);
        Due.is("the other array is its own", x.element(1, 2), 0);
    }

    /** Promise 31. */
    private static void sumsOfPrefixes() {
        AbelianPowers x = new AbelianPowers();
        Due.word(x, 0, "cabc");
        x.newArray(1, 7);
        for (int i = 0; i < 7; i++) {
            x.setElement(1, i, 100 + i);
        }
        Due.is("prefixSums(1, 0)", x.prefixSums(1, 0), 5);
        Due.elementsAre(x, 1, 0, 2, 2, 3, 5, 105, 106);
        x.setValue(2, -9);
        x.setValue(0, 4);
        Due.is("prefixSums(1, 0) with other values", x.prefixSums(1, 0), 5);
        Due.elementsAre(x, 1, 0, -9, -5, -4, -13, 105, 106);
        Due.is("prefixSums of an empty word", x.prefixSums(1, 1), 1);
        Due.elementsAre(x, 1, 0, -9);
        for (int i = 0; i < 40; i++) {
            x.append(2, 2);
        }
        x.newArray(0, 41);
        Due.is("prefixSums of a full word", x.prefixSums(0, 2), 41);
        Due.is("element(0, 40)", x.element(0, 40), -360);
        Due.problem(x, "equal 2 3");
        Due.is("the kind does not matter", x.prefixSums(1, 0), 5);
        Due.elementsAre(x, 1, 0, -9, -5, -4, -13, 105);
    }

    private static void errorsOfPrefixSums() {
        AbelianPowers x = new AbelianPowers();
        Due.is("no array", x.prefixSums(3, 0), -1);
        Due.is("no array -1", x.prefixSums(-1, 0), -1);
        Due.is("no register goes before a missing array", x.prefixSums(0, 3), -1);
        Due.is("no register -1", x.prefixSums(0, -1), -1);
        Due.is("a missing array", x.prefixSums(0, 0), -11);
        x.newArray(0, 0);
        Due.is("no room for the empty prefix", x.prefixSums(0, 0), -13);
        x.newArray(0, 4);
        x.setElement(0, 0, 8);
        x.setElement(0, 3, 9);
        Due.word(x, 0, "bbbb");
        Due.is("no room for the whole word", x.prefixSums(0, 0), -13);
        Due.elementsAre(x, 0, 8, 0, 0, 9);
        Due.word(x, 0, "bbb");
        Due.is("just enough room", x.prefixSums(0, 0), 4);
        Due.elementsAre(x, 0, 0, 1, 2, 3);
    }

    /** Promises 32 and 33. */
    private static void snapshotsAreRestored() {
        AbelianPowers x = new AbelianPowers();
        Due.is("no snapshot", x.restoreSnapshot(), -2);
        Due.word(x, 0, "abc");
        Due.word(x, 2, "ca");
        x.setValue(1, -5);
        Due.image(x, "b:bca");
        Due.is("saveSnapshot()", x.saveSnapshot(), 5);
        Due.problem(x, "mixed 4 2");
        Due.word(x, 0, "b");
        Due.word(x, 1, "bab");
        Due.image(x, "a:ab");
        Due.is("restoreSnapshot()", x.restoreSnapshot(), 5);
        Due.is("problem(0)", x.problem(0), 1);
        Due.is("problem(1)", x.problem(1), 2);
        Due.is("problem(2)", x.problem(2), 3);
        Due.textIs(x, 0, "abc");
        Due.textIs(x, 1, "");
        Due.textIs(x, 2, "ca");
        Due.is("imageLength(0)", x.imageLength(0), 0);
        Due.is("imageLength(1)", x.imageLength(1), 3);
        Due.is("imageLength(2)", x.imageLength(2), 0);
        Due.word(x, 1, "b");
        x.apply(1);
        Due.textIs(x, 1, "bca");
        Due.is("the value", x.setValue(1, 0), 5);
        Due.is("another value", x.setValue(2, 0), 12);
    }

    private static void snapshotsAreReplacedAndKept() {
        AbelianPowers x = new AbelianPowers();
        Due.is("a snapshot of nothing", x.saveSnapshot(), 0);
        Due.word(x, 1, "ab");
        Due.is("restoreSnapshot()", x.restoreSnapshot(), 0);
        Due.is("length(1)", x.length(1), 0);
        Due.word(x, 1, "abab");
        Due.is("a later snapshot", x.saveSnapshot(), 4);
        x.append(1, 2);
        Due.is("restoreSnapshot() of the later one", x.restoreSnapshot(), 4);
        Due.textIs(x, 1, "abab");
        x.clearWord(1);
        x.setValue(0, 7);
        Due.is("the snapshot is kept", x.restoreSnapshot(), 4);
        Due.textIs(x, 1, "abab");
        Due.is("with its values", x.setValue(0, 1), 10);
        for (int w = 0; w < 3; w++) {
            x.clearWord(w);
            for (int i = 0; i < 40; i++) {
                x.append(w, w);
            }
        }
        Due.is("full words", x.saveSnapshot(), 120);
        Due.is("full words restored", x.restoreSnapshot(), 120);
        Due.is("the last letter", x.letter(2, 39), 2);
    }

    private static void snapshotsLeaveTheRest() {
        AbelianPowers x = new AbelianPowers();
        x.newArray(0, 2);
        x.feed(97);
        x.saveSnapshot();
        x.setElement(0, 1, 5);
        x.newArray(1, 1);
        Due.is("feed(58)", x.feed(58), 2);
        Due.is("restoreSnapshot()", x.restoreSnapshot(), 0);
        Due.is("arrays are not restored", x.element(0, 1), 5);
        Due.is("nor removed", x.element(1, 0), 0);
        Due.is("nor is the input", x.feed(98), 3);
        Due.is("parseImage()", x.parseImage(), 0);
        Due.is("imageLength(0)", x.imageLength(0), 1);
    }
}
