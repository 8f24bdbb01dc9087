/** Promises 1 to 5: a new object, the input, the problem and the values. */
public final class ProblemTest {
    private static final String[] KINDS = {"equal", "abelian", "additive", "mixed"};

    public static void main(String[] args) {
        newObject();
        feedTakesSixteenBytes();
        feedRefusesOtherBytes();
        everyProblemIsParsed();
        faultsOfProblems();
        parsingEmptiesTheInput();
        faultLeavesTheProblem();
        otherAlphabetStartsOver();
        sameAlphabetKeepsAll();
        partsOfTheProblem();
        valuesOfLetters();
        Due.end();
    }

    /** Promise 1. */
    private static void newObject() {
        AbelianPowers x = new AbelianPowers();
        Due.is("kind at first", x.problem(0), 1);
        Due.is("exponent at first", x.problem(1), 2);
        Due.is("letters at first", x.problem(2), 3);
        for (int i = 0; i < 3; i++) {
            Due.is("length at first", x.length(i), 0);
            Due.is("image at first", x.imageLength(i), 0);
            Due.is("setElement at first", x.setElement(i, 0, 5), -11);
            Due.is("element at first", x.element(i, 0), Long.MIN_VALUE);
            Due.is("value at first", x.setValue(i, 0), 10 + i);
        }
        Due.is("no snapshot at first", x.restoreSnapshot(), -2);
        Due.is("no closure at first", x.template(0, 0), -2);
        Due.is("no input at first", x.feed(1), 1);
    }

    /** Promise 2. */
    private static void feedTakesSixteenBytes() {
        AbelianPowers x = new AbelianPowers();
        for (int i = 1; i <= 16; i++) {
            Due.is("feed number " + i, x.feed(i == 1 ? 1 : 127), i);
        }
        Due.is("feed number 17", x.feed(97), -3);
        Due.is("a wrong byte goes before a full input", x.feed(0), -1);
        Due.is("a full input of no problem", x.parseProblem(), -100);
        Due.is("feed into an emptied input", x.feed(97), 1);
    }

    private static void feedRefusesOtherBytes() {
        AbelianPowers x = new AbelianPowers();
        int[] wrong = {0, -1, 128, 97 + 256, Integer.MIN_VALUE, Integer.MAX_VALUE};
        for (int b : wrong) {
            Due.is("feed(" + b + ")", x.feed(b), -1);
        }
        Due.is("nothing was fed", x.feed(97), 1);
    }

    /** Promise 3. */
    private static void everyProblemIsParsed() {
        AbelianPowers x = new AbelianPowers();
        for (int kind = 0; kind < 4; kind++) {
            for (int e = 2; e <= 4; e++) {
                for (int k = 2; k <= 4; k++) {
                    Due.is("parseProblem()", Due.problem(x, KINDS[kind] + " " + e + " " + k), e);
                    Due.is("problem(0)", x.problem(0), kind);
                    Due.is("problem(1)", x.problem(1), e);
                    Due.is("problem(2)", x.problem(2), k);
                }
            }
        }
    }

    private static void faultsOfProblems() {
        AbelianPowers x = new AbelianPowers();
        String[] texts = {
            "", "x", " equal 2 2", "e", "equa", "equal", "equal ", "equal 2", "equal 2 ", "equal2 2", "equal  2 2",
            "equal 1 2", "equal 5 2", "equal 22 2", "equal 2  2", "equal 2 1", "equal 2 5", "equal 2 22", "equal 2 2 ",
            "a", "ab", "ad", "ac", "abd", "adb", "abelian 2 0", "additive 4 9", "mixed 3 a", "mixec", "Equal 2 2",
            "additive 2 2abcd", "equal:2 2", "mixed 2,2", "additivex", "abelianx", "equalx"};
        int[] positions = {
            0, 0, 0, 1, 4, 5, 6, 7, 8, 5, 6,
            6, 6, 7, 8, 8, 8, 9, 9,
            1, 2, 2, 1, 2, 2, 10, 11, 8, 4, 0,
            12, 5, 7, 8, 7, 5};
        for (int i = 0; i < texts.length; i++) {
            Due.is("parseProblem() of '" + texts[i] + "'", Due.problem(x, texts[i]), -100 - positions[i]);
        }
    }

    private static void parsingEmptiesTheInput() {
        AbelianPowers x = new AbelianPowers();
        Due.problem(x, "equal 2 2");
        Due.is("feed after a problem", x.feed(97), 1);
        Due.is("parseProblem() of a", x.parseProblem(), -101);
        Due.is("feed after a fault", x.feed(97), 1);
        Due.is("parseImage() of a", x.parseImage(), -101);
        Due.is("feed after a fault of an image", x.feed(97), 1);
    }

    private static void faultLeavesTheProblem() {
        AbelianPowers x = new AbelianPowers();
        Due.word(x, 0, "abc");
        x.setValue(1, -4);
        Due.image(x, "a:abc");
        Due.is("parseProblem()", Due.problem(x, "mixed 4 4x"), -109);
        Due.is("kind after a fault", x.problem(0), 1);
        Due.is("exponent after a fault", x.problem(1), 2);
        Due.is("letters after a fault", x.problem(2), 3);
        Due.textIs(x, 0, "abc");
        Due.is("value after a fault", x.setValue(1, 0), 6);
        Due.is("image after a fault", x.imageLength(0), 3);
    }

    private static void otherAlphabetStartsOver() {
        AbelianPowers x = new AbelianPowers();
        for (int i = 0; i < 3; i++) {
            Due.word(x, i, "abc");
            x.setValue(i, 9 - i);
        }
        Due.image(x, "a:ab");
        Due.image(x, "b:ba");
        Due.image(x, "c:cc");
        Due.is("parseProblem()", Due.problem(x, "abelian 2 4"), 2);
        for (int i = 0; i < 3; i++) {
            Due.is("length in the new alphabet", x.length(i), 0);
        }
        for (int i = 0; i < 4; i++) {
            Due.is("image in the new alphabet", x.imageLength(i), 0);
            Due.is("value in the new alphabet", x.setValue(i, 0), 10 + i);
        }
    }

    private static void sameAlphabetKeepsAll() {
        AbelianPowers x = new AbelianPowers();
        Due.word(x, 2, "abc");
        x.setValue(2, -9);
        Due.image(x, "c:cab");
        Due.is("parseProblem()", Due.problem(x, "additive 4 3"), 4);
        Due.textIs(x, 2, "abc");
        Due.is("image", x.imageLength(2), 3);
        Due.is("value", x.setValue(2, 2), 1);
    }

    /** Promise 4. */
    private static void partsOfTheProblem() {
        AbelianPowers x = new AbelianPowers();
        Due.problem(x, "mixed 4 2");
        Due.is("problem(0)", x.problem(0), 3);
        Due.is("problem(1)", x.problem(1), 4);
        Due.is("problem(2)", x.problem(2), 2);
        Due.is("problem(-1)", x.problem(-1), -1);
        Due.is("problem(3)", x.problem(3), -1);
        Due.is("problem(MAX)", x.problem(Integer.MAX_VALUE), -1);
    }

    /** Promise 5. */
    private static void valuesOfLetters() {
        AbelianPowers x = new AbelianPowers();
        Due.is("setValue(2, -9)", x.setValue(2, -9), 12);
        Due.is("setValue(2, 9)", x.setValue(2, 9), 1);
        Due.is("setValue(2, 0)", x.setValue(2, 0), 19);
        Due.is("setValue(2, -10)", x.setValue(2, -10), -1);
        Due.is("setValue(2, 10)", x.setValue(2, 10), -1);
        Due.is("setValue(2, MIN)", x.setValue(2, Integer.MIN_VALUE), -1);
        Due.is("setValue(3, 0)", x.setValue(3, 0), -1);
        Due.is("setValue(-1, 0)", x.setValue(-1, 0), -1);
        Due.is("nothing was set", x.setValue(2, 1), 10);
        Due.problem(x, "abelian 2 4");
        Due.is("setValue(3, 5)", x.setValue(3, 5), 13);
        Due.is("setValue(4, 5)", x.setValue(4, 5), -1);
    }
}
