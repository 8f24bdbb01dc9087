import java.util.function.Supplier;
import java.util.function.ToLongFunction;

/** The paragraph on errors: their constants, the state that they leave, and which of several is reported. */
final class ErrorSentences {
    private static final int MAX = Integer.MAX_VALUE;
    private static final int MIN = Integer.MIN_VALUE;

    private ErrorSentences() {
    }

    static void ask() {
        constantsAreReported();
        refusedCallsLeaveANewObject();
        refusedCallsLeaveAFullObject();
        refusedSearchesLeaveTheState();
        refusedClosuresLeaveTheState();
        refusedParsesEmptyTheInputAlone();
        questionsLeaveTheState();
        theFirstErrorIsReported();
        theFirstErrorOfMorphismsIsReported();
        theFirstErrorOfArraysIsReported();
    }

    private static void constantsAreReported() {
        Doc.says("Errors", "Methods report errors by the constants of this class.");
        AbelianPowers x = new AbelianPowers();
        Due.word(x, 0, "a".repeat(40));
        Due.is("BAD_ARGUMENT", x.length(3), AbelianPowers.BAD_ARGUMENT);
        Due.is("NONE", x.letter(0, 40), AbelianPowers.NONE);
        Due.is("FULL", x.append(0, 0), AbelianPowers.FULL);
        Due.is("NOT_FREE", x.extensions(0), AbelianPowers.NOT_FREE);
        Due.is("MISSING_IMAGE", x.apply(0), AbelianPowers.MISSING_IMAGE);
        Due.is("NULL_ARRAY", x.setElement(0, 0, 0), AbelianPowers.NULL_ARRAY);
        Due.is("NEGATIVE_SIZE", x.newArray(0, -1), AbelianPowers.NEGATIVE_SIZE);
        x.newArray(0, 1);
        Due.is("INDEX_OUT_OF_RANGE", x.setElement(0, 1, 0), AbelianPowers.INDEX_OUT_OF_RANGE);
        Due.is("SYNTAX_ERROR", Due.problem(x, "equal 5"), AbelianPowers.SYNTAX_ERROR - 6);
        Due.morphism(x, "a", "b", "c");
        Due.is("NOT_PROLONGABLE", x.iterate(0, 0), AbelianPowers.NOT_PROLONGABLE);
        Due.is("LIMIT", x.computeClosure(), AbelianPowers.LIMIT);
        Due.image(x, "c:ab");
        Due.is("SINGULAR", x.computeClosure(), AbelianPowers.SINGULAR);
    }

    /** Asks for the answer of a call, and that the object is then as it would be without it. */
    private static void refused(Supplier<AbelianPowers> made, String call, long error, ToLongFunction<AbelianPowers> asked) {
        leaves(made, made, call, error, asked);
    }

    private static void leaves(Supplier<AbelianPowers> made, Supplier<AbelianPowers> left, String call, long answer,
            ToLongFunction<AbelianPowers> asked) {
        AbelianPowers x = made.get();
        Due.is(call, asked.applyAsLong(x), answer);
        Due.same("the state after " + call, Picture.of(x), Picture.of(left.get()));
    }

    private static void saysThatTheStateStays() {
        Doc.says("Errors", "A call that reports an error leaves the state unchanged, except that parseProblem and parseImage always "
            + "empty the input.");
    }

    /** Closure, snapshot, arrays and the rest all differ from what they are at first. */
    private static AbelianPowers filledWithoutInput() {
        AbelianPowers x = Due.withMorphism(2, "a", "b");
        x.computeClosure();
        Due.problem(x, "mixed 4 3");
        Due.word(x, 2, "cab");
        x.setValue(1, -4);
        Due.image(x, "b:cc");
        x.saveSnapshot();
        Due.problem(x, "additive 3 4");
        Due.word(x, 0, "abcd".repeat(10));
        Due.word(x, 1, "ddd");
        for (int i = 0; i < 4; i++) {
            x.setValue(i, 3 * i - 5);
        }
        Due.morphism(x, "abcd", "b");
        Due.image(x, "d:da");
        x.newArray(0, 4);
        x.setElement(0, 3, Long.MAX_VALUE);
        x.setElement(0, 0, -3);
        x.newArray(2, 0);
        return x;
    }

    private static AbelianPowers filled() {
        AbelianPowers x = filledWithoutInput();
        Due.feed(x, "c:d");
        return x;
    }

    private static AbelianPowers withFullInput() {
        AbelianPowers x = filledWithoutInput();
        Due.feed(x, "additive 2 2 2 2");
        return x;
    }

    private static void refusedCallsLeaveANewObject() {
        saysThatTheStateStays();
        Supplier<AbelianPowers> made = AbelianPowers::new;
        refused(made, "iterate(0, 0)", -6, x -> x.iterate(0, 0));
        refused(made, "determinant()", Long.MIN_VALUE, x -> x.determinant());
        refused(made, "computeClosure()", -6, x -> x.computeClosure());
        refused(made, "template(0, 0)", -2, x -> x.template(0, 0));
        refused(made, "occurrence(0, 0)", -2, x -> x.occurrence(0, 0));
        refused(made, "setElement(0, 0, 1)", -11, x -> x.setElement(0, 0, 1));
        refused(made, "element(0, 0)", Long.MIN_VALUE, x -> x.element(0, 0));
        refused(made, "prefixSums(0, 0)", -11, x -> x.prefixSums(0, 0));
        refused(made, "restoreSnapshot()", -2, x -> x.restoreSnapshot());
        refused(made, "smallestFree(8, 0)", -2, x -> x.smallestFree(8, 0));
        refused(made, "firstPower(0)", -2, x -> x.firstPower(0));
        refused(made, "parseProblem()", -100, x -> x.parseProblem());
        refused(made, "parseImage()", -100, x -> x.parseImage());
    }

    private static void refusedCallsLeaveAFullObject() {
        saysThatTheStateStays();
        for (int n : new int[] {-1, 3, MIN, MAX}) {
            refusedRegisters(ErrorSentences::filled, n);
        }
        for (int n : new int[] {-1, 4, MIN, MAX}) {
            refusedLetters(ErrorSentences::filled, n);
        }
        refusedNumbers(ErrorSentences::filled);
        refused(ErrorSentences::withFullInput, "feed(32)", -3, x -> x.feed(32));
        refused(ErrorSentences::withFullInput, "feed(0)", -1, x -> x.feed(0));
    }

    private static void refusedRegisters(Supplier<AbelianPowers> made, int n) {
        refused(made, "append(n, 0)", -1, x -> x.append(n, 0));
        refused(made, "clearWord(n)", -1, x -> x.clearWord(n));
        refused(made, "length(n)", -1, x -> x.length(n));
        refused(made, "letter(n, 0)", -1, x -> x.letter(n, 0));
        refused(made, "occurrences(n, 0, 0, 0)", -1, x -> x.occurrences(n, 0, 0, 0));
        refused(made, "equivalent(n, 0, 0, 0)", -1, x -> x.equivalent(n, 0, 0, 0));
        refused(made, "firstPower(n)", -1, x -> x.firstPower(n));
        refused(made, "powerCount(n)", -1, x -> x.powerCount(n));
        refused(made, "freePrefix(n)", -1, x -> x.freePrefix(n));
        refused(made, "extensions(n)", -1, x -> x.extensions(n));
        refused(made, "smallestFree(3, n)", -1, x -> x.smallestFree(3, n));
        refused(made, "apply(n)", -1, x -> x.apply(n));
        refused(made, "iterate(n, 0)", -1, x -> x.iterate(n, 0));
        refused(made, "occurrence(n, 0)", -1, x -> x.occurrence(n, 0));
        refused(made, "prefixSums(0, n)", -1, x -> x.prefixSums(0, n));
        refused(made, "prefixSums(n, 1)", -1, x -> x.prefixSums(n, 1));
        refused(made, "newArray(n, 1)", -1, x -> x.newArray(n, 1));
        refused(made, "setElement(n, 0, 1)", -1, x -> x.setElement(n, 0, 1));
        refused(made, "element(n, 0)", Long.MIN_VALUE, x -> x.element(n, 0));
        refused(made, "problem(n)", -1, x -> x.problem(n));
    }

    private static void refusedLetters(Supplier<AbelianPowers> made, int n) {
        refused(made, "setValue(n, 0)", -1, x -> x.setValue(n, 0));
        refused(made, "append(1, n)", -1, x -> x.append(1, n));
        refused(made, "occurrences(0, 0, 1, n)", -1, x -> x.occurrences(0, 0, 1, n));
        refused(made, "imageLength(n)", -1, x -> x.imageLength(n));
        refused(made, "iterate(0, n)", -1, x -> x.iterate(0, n));
    }

    private static void refusedNumbers(Supplier<AbelianPowers> made) {
        for (int n : Due.outside(1, 127)) {
            refused(made, "feed(n)", -1, x -> x.feed(n));
        }
        for (int n : Due.outside(-9, 9)) {
            refused(made, "setValue(0, n)", -1, x -> x.setValue(0, n));
        }
        for (int n : Due.outside(1, 30)) {
            refused(made, "smallestFree(n, 0)", -1, x -> x.smallestFree(n, 0));
        }
        for (int n : Due.outside(0, 8)) {
            refused(made, "countFree(n)", -1, x -> x.countFree(n));
            refused(made, "countNormal(n)", -1, x -> x.countNormal(n));
        }
        for (int n : Due.outside(0, 3)) {
            refused(made, "setElement(0, n, 1)", -13, x -> x.setElement(0, n, 1));
            refused(made, "element(0, n)", Long.MIN_VALUE, x -> x.element(0, n));
        }
        for (int n : Due.outside(0, 112)) {
            refused(made, "template(n, 0)", -2, x -> x.template(n, 0));
            refused(made, "occurrence(0, n)", -2, x -> x.occurrence(0, n));
        }
        for (int n : Due.outside(0, 4)) {
            refused(made, "template(0, n)", -1, x -> x.template(0, n));
        }
        refused(made, "append(0, 0)", -3, x -> x.append(0, 0));
        refused(made, "letter(0, 40)", -2, x -> x.letter(0, 40));
        refused(made, "occurrences(0, 40, 1, 0)", -1, x -> x.occurrences(0, 40, 1, 0));
        refused(made, "equivalent(0, 0, 40, 1)", -1, x -> x.equivalent(0, 0, 40, 1));
        refused(made, "extensions(1)", -5, x -> x.extensions(1));
        refused(made, "firstPower(2)", -2, x -> x.firstPower(2));
        refused(made, "apply(0)", -6, x -> x.apply(0));
        refused(made, "iterate(0, 0)", -6, x -> x.iterate(0, 0));
        refused(made, "determinant()", Long.MIN_VALUE, x -> x.determinant());
        refused(made, "computeClosure()", -6, x -> x.computeClosure());
        refused(made, "occurrence(0, 0)", -2, x -> x.occurrence(0, 0));
        refused(made, "newArray(0, 42)", -1, x -> x.newArray(0, 42));
        refused(made, "newArray(0, -1)", -14, x -> x.newArray(0, -1));
        refused(made, "setElement(1, 0, 1)", -11, x -> x.setElement(1, 0, 1));
        refused(made, "setElement(2, 0, 1)", -13, x -> x.setElement(2, 0, 1));
        refused(made, "prefixSums(1, 0)", -11, x -> x.prefixSums(1, 0));
        refused(made, "prefixSums(0, 0)", -13, x -> x.prefixSums(0, 0));
        refused(made, "prefixSums(2, 2)", -13, x -> x.prefixSums(2, 2));
    }

    /** The search for the longest word is beyond the limit, and there is none of 10 letters. */
    private static AbelianPowers withTwoValues() {
        AbelianPowers x = filled();
        for (int i = 0; i < 4; i++) {
            x.setValue(i, i % 2);
        }
        return x;
    }

    private static void refusedSearchesLeaveTheState() {
        saysThatTheStateStays();
        for (int w = 0; w < 3; w++) {
            int word = w;
            refused(ErrorSentences::withTwoValues, "smallestFree(10, w)", -4, x -> x.smallestFree(10, word));
            refused(AbelianPowers::new, "smallestFree(8, w)", -2, x -> x.smallestFree(8, word));
        }
        refused(ErrorSentences::withTwoValues, "longestFree()", -4, x -> x.longestFree());
        refused(ErrorSentences::filled, "longestFree()", -2, x -> x.longestFree());
    }

    private static AbelianPowers filledWith(String... images) {
        AbelianPowers x = filledWithoutInput();
        if (images.length < 4) {
            Due.problem(x, "abelian 2 " + images.length);
            Due.word(x, 0, "ab".repeat(20));
        }
        Due.morphism(x, images);
        Due.feed(x, "a:b");
        return x;
    }

    private static void refusedClosuresLeaveTheState() {
        saysThatTheStateStays();
        refused(() -> filledWith("ab", "ba"), "computeClosure()", -8, x -> x.computeClosure());
        refused(() -> filledWith("aab", "babb"), "computeClosure()", -4, x -> x.computeClosure());
        refused(() -> filledWith("a", "b", "c"), "computeClosure()", -4, x -> x.computeClosure());
        refused(() -> filledWith("a", "b", "c", "d"), "computeClosure()", -4, x -> x.computeClosure());
        refused(() -> filledWith("a", "b", "c", "cc"), "computeClosure()", -8, x -> x.computeClosure());
        refused(() -> filledWith("ab", "ba"), "apply(0)", -3, x -> x.apply(0));
        refused(() -> filledWith("a", "ab"), "iterate(0, 0)", -7, x -> x.iterate(0, 0));
        refused(() -> filledWith("a", "ab"), "iterate(0, 1)", -7, x -> x.iterate(0, 1));
    }

    private static AbelianPowers filledAndFed(String input) {
        AbelianPowers x = filledWithoutInput();
        Due.feed(x, input);
        return x;
    }

    private static void refusedParsesEmptyTheInputAlone() {
        saysThatTheStateStays();
        Supplier<AbelianPowers> emptied = ErrorSentences::filledWithoutInput;
        String[] noProblems = {"", "x", "equal", "equal 2 5", "equal 5 2", "mixed 2 2 ", "additive 2 2 2 2", "a:b"};
        int[] problemFaults = {0, 0, 5, 8, 6, 9, 12, 1};
        for (int i = 0; i < noProblems.length; i++) {
            String input = noProblems[i];
            leaves(() -> filledAndFed(input), emptied, "parseProblem() of '" + input + "'", -100 - problemFaults[i],
                x -> x.parseProblem());
        }
        String[] noImages = {"", "e:a", "a", "a;a", "a:", "a:e", "c:abcda", "c:abcdabcdabcdab", "equal 2 2"};
        int[] imageFaults = {0, 0, 1, 1, 2, 2, 6, 6, 0};
        for (int i = 0; i < noImages.length; i++) {
            String input = noImages[i];
            leaves(() -> filledAndFed(input), emptied, "parseImage() of '" + input + "'", -100 - imageFaults[i],
                x -> x.parseImage());
        }
        // A call that reports no error empties the input as well.
        leaves(() -> filledAndFed("d:da"), emptied, "parseImage() of the image that it has", 3, x -> x.parseImage());
        leaves(() -> filledAndFed("additive 3 4"), emptied, "parseProblem() of the present one", 3, x -> x.parseProblem());
    }

    private static void questionsLeaveTheState() {
        saysThatTheStateStays();
        Supplier<AbelianPowers> made = ErrorSentences::filled;
        refused(made, "problem(0)", 2, x -> x.problem(0));
        refused(made, "length(0)", 40, x -> x.length(0));
        refused(made, "letter(0, 39)", 3, x -> x.letter(0, 39));
        refused(made, "occurrences(0, 0, 40, 3)", 10, x -> x.occurrences(0, 0, 40, 3));
        refused(made, "equivalent(0, 0, 20, 20)", 1, x -> x.equivalent(0, 0, 20, 20));
        refused(made, "firstPower(1)", 1, x -> x.firstPower(1));
        refused(made, "powerCount(1)", 1, x -> x.powerCount(1));
        refused(made, "freePrefix(1)", 2, x -> x.freePrefix(1));
        refused(made, "extensions(2)", 15, x -> x.extensions(2));
        refused(made, "countFree(1)", 4, x -> x.countFree(1));
        refused(made, "countNormal(1)", 1, x -> x.countNormal(1));
        refused(made, "imageLength(0)", 4, x -> x.imageLength(0));
        refused(made, "template(112, 4)", 12, x -> x.template(112, 4));
        refused(made, "element(0, 3)", Long.MAX_VALUE, x -> x.element(0, 3));
        refused(() -> filledWith("a", "b"), "determinant()", 1, x -> x.determinant());
        refused(() -> filledWith("a", "b"), "occurrence(0, 0)", 202, x -> x.occurrence(0, 0));
        refused(() -> filledWith("a", "b"), "longestFree()", 3, x -> x.longestFree());
        refused(() -> filledWith("a", "b"), "computeClosure() again", 113, x -> x.computeClosure());
    }

    private static void saysWhichIsReported() {
        Doc.says("Errors", "When several errors apply, the one that is listed first is reported.");
    }

    private static void theFirstErrorIsReported() {
        saysWhichIsReported();
        AbelianPowers x = withFullInput();
        Due.is("feed: BAD_ARGUMENT, FULL", x.feed(0), -1);
        Due.is("append: BAD_ARGUMENT for the letter, FULL", x.append(0, 4), -1);
        Due.is("letter: BAD_ARGUMENT, NONE", x.letter(3, 99), -1);
        AbelianPowers y = withTwoValues();
        Due.is("smallestFree: LIMIT, NONE", y.smallestFree(10, 0), -4);
        Due.is("smallestFree: BAD_ARGUMENT for the register, LIMIT", y.smallestFree(10, 3), -1);
        Due.is("smallestFree: BAD_ARGUMENT for the length, LIMIT", y.smallestFree(31, 0), -1);
        Due.is("smallestFree: BAD_ARGUMENT, NONE", new AbelianPowers().smallestFree(8, 3), -1);
        Due.is("template: NONE, BAD_ARGUMENT", x.template(113, 5), -2);
        Due.is("template: NONE without a closure, BAD_ARGUMENT", new AbelianPowers().template(0, -1), -2);
        Due.is("occurrence: BAD_ARGUMENT, NONE for the template", x.occurrence(3, 113), -1);
        Due.is("occurrence: BAD_ARGUMENT, NONE without a closure", new AbelianPowers().occurrence(3, 0), -1);
    }

    private static void theFirstErrorOfMorphismsIsReported() {
        saysWhichIsReported();
        AbelianPowers x = filledWithoutInput();
        // 40 letters with images of 4, 1 and 2 letters would be 70 without those of c.
        Due.is("apply: MISSING_IMAGE, FULL", x.apply(0), -6);
        Due.is("apply: BAD_ARGUMENT, MISSING_IMAGE", x.apply(3), -1);
        Due.is("iterate: BAD_ARGUMENT for the register, MISSING_IMAGE", x.iterate(3, 0), -1);
        Due.is("iterate: BAD_ARGUMENT for the letter, MISSING_IMAGE", x.iterate(0, 4), -1);
        Due.is("iterate: MISSING_IMAGE, NOT_PROLONGABLE", x.iterate(0, 1), -6);
        Due.is("iterate: MISSING_IMAGE for the letter itself", x.iterate(0, 2), -6);
        Due.is("iterate: BAD_ARGUMENT, NOT_PROLONGABLE", filledWith("b", "a").iterate(3, 0), -1);
        // The images that there are would be singular, and have too many templates.
        Due.is("computeClosure: MISSING_IMAGE, SINGULAR", Due.withMorphism(3, "ab", "ba").computeClosure(), -6);
        Due.is("computeClosure: MISSING_IMAGE, LIMIT", Due.withMorphism(3, "a", "b").computeClosure(), -6);
        Due.is("computeClosure: SINGULAR, LIMIT", Due.withMorphism(3, "ab", "ba", "c").computeClosure(), -8);
    }

    private static void theFirstErrorOfArraysIsReported() {
        saysWhichIsReported();
        AbelianPowers x = filledWithoutInput();
        Due.is("newArray: BAD_ARGUMENT for the array, NEGATIVE_SIZE", x.newArray(3, -1), -1);
        Due.is("newArray: BAD_ARGUMENT for the array, NEGATIVE_SIZE", x.newArray(-1, MIN), -1);
        Due.is("setElement: BAD_ARGUMENT, INDEX_OUT_OF_RANGE", x.setElement(3, -1, 0), -1);
        Due.is("setElement: NULL_ARRAY, INDEX_OUT_OF_RANGE", x.setElement(1, -1, 0), -11);
        Due.is("setElement: NULL_ARRAY, INDEX_OUT_OF_RANGE", x.setElement(1, MAX, 0), -11);
        Due.is("prefixSums: BAD_ARGUMENT for the array", x.prefixSums(3, 0), -1);
        Due.is("prefixSums: BAD_ARGUMENT for the register, NULL_ARRAY", x.prefixSums(1, 3), -1);
        Due.is("prefixSums: BAD_ARGUMENT for the register, INDEX_OUT_OF_RANGE", x.prefixSums(2, 3), -1);
        Due.is("prefixSums: NULL_ARRAY, INDEX_OUT_OF_RANGE", x.prefixSums(1, 0), -11);
    }
}
