import java.util.ArrayList;
import java.util.List;

/** Promises 1 to 5, sentence by sentence: a new object, the input, the problem and the values. */
final class ProblemSentences {
    private static final String[] KINDS = {"equal", "abelian", "additive", "mixed"};
    private static final List<String> PROBLEMS = problems();

    private ProblemSentences() {
    }

    static void ask() {
        newObject();
        objectsShareNothing();
        feedAppends();
        inputIsEmptyAtFirst();
        bytesOfFeed();
        inputOfSixteenBytes();
        everyProblemIsParsed();
        numbersAreOneDigit();
        otherNumberOfLetters();
        sameNumberOfLetters();
        problemsThatEndTooEarly();
        bytesThatCannotContinue();
        bytesBehindAProblem();
        digitsOutOfRange();
        positionsOfFaults();
        partsOfTheProblem();
        partsThatThereAreNot();
        valuesAreSet();
        lettersOfSetValue();
        valuesOfSetValue();
    }

    private static List<String> problems() {
        List<String> all = new ArrayList<>();
        for (String kind : KINDS) {
            for (int e = 2; e <= 4; e++) {
                for (int k = 2; k <= 4; k++) {
                    all.add(kind + " " + e + " " + k);
                }
            }
        }
        return all;
    }

    // ---- promise 1

    private static void newObject() {
        Doc.says(1, "Creates an object with the first problem, empty registers, no images and missing arrays.");
        AbelianPowers x = new AbelianPowers();
        Due.is("problem(0)", x.problem(0), 1);
        Due.is("problem(1)", x.problem(1), 2);
        Due.is("problem(2)", x.problem(2), 3);
        Due.all("length", 0, x::length, 0, 1, 2);
        Due.all("imageLength", 0, x::imageLength, 0, 1, 2);
        Due.all("setElement", -11, a -> x.setElement(a, 0, 1), 0, 1, 2);
    }

    private static void objectsShareNothing() {
        Doc.says(1, "Creates an object");
        AbelianPowers x = Due.withMorphism(2, "a", "b");
        Due.word(x, 0, "ab");
        x.setValue(0, 5);
        x.newArray(0, 3);
        x.saveSnapshot();
        x.computeClosure();
        x.feed(97);
        newObject();
        AbelianPowers y = new AbelianPowers();
        Due.is("feed of another object", y.feed(97), 1);
        Due.is("setValue of another object", y.setValue(0, 0), 10);
        Due.is("template of another object", y.template(0, 0), -2);
        Due.is("restoreSnapshot of another object", y.restoreSnapshot(), -2);
        Due.textIs(x, 0, "ab");
    }

    // ---- promise 2

    private static void feedAppends() {
        Doc.says(2, "Appends a byte to the input.", "Returns the length of the input");
        AbelianPowers x = new AbelianPowers();
        int[] bytes = {'b', ':', 'a', 'c'};
        for (int i = 0; i < bytes.length; i++) {
            Due.is("feed", x.feed(bytes[i]), i + 1);
        }
        Due.is("parseImage of b:ac", x.parseImage(), 1);
        Due.same("the image of b", Due.imageText(x, 1), "ac");
    }

    private static void inputIsEmptyAtFirst() {
        Doc.says(2, "The input is empty at first.");
        Due.is("the first feed", new AbelianPowers().feed(97), 1);
        Due.is("parseProblem of an empty input", new AbelianPowers().parseProblem(), -100);
        Due.is("parseImage of an empty input", new AbelianPowers().parseImage(), -100);
    }

    private static void bytesOfFeed() {
        Doc.says(2, "`b`: the byte, 1 to 127", "BAD_ARGUMENT");
        AbelianPowers x = new AbelianPowers();
        Due.all("feed", -1, x::feed, Due.outside(1, 127));
        Due.is("feed(0)", x.feed(0), -1);
        Due.is("feed(97 + 256)", x.feed(97 + 256), -1);
        Due.is("feed(97 - 256)", x.feed(97 - 256), -1);
        Due.is("feed(1)", x.feed(1), 1);
        Due.is("feed(127)", x.feed(127), 2);
        Due.all("feed with one byte fed", -1, x::feed, Due.outside(1, 127));
        Due.is("feed(2)", x.feed(2), 3);
    }

    private static void inputOfSixteenBytes() {
        Doc.says(2, "FULL if the input has 16 bytes.");
        AbelianPowers x = new AbelianPowers();
        Due.feed(x, "additive 2 3   ");
        Due.is("the 16th byte", x.feed(32), 16);
        Due.is("the 17th byte", x.feed(32), -3);
        Due.is("the 17th byte again", x.feed(127), -3);
        Due.is("a wrong byte goes before", x.feed(128), -1);
        Due.is("another wrong byte", x.feed(0), -1);
        Due.is("parseProblem of the 16 bytes", x.parseProblem(), -112);
        Due.is("the input has room again", x.feed(97), 1);
    }

    // ---- promise 3

    private static void everyProblemIsParsed() {
        Doc.says(3, "Parses the input as a problem.", "A problem is written as the name of its kind (equal, abelian, "
            + "additive or mixed), a space, the exponent, a space, and the number of letters.", "Returns the exponent");
        AbelianPowers x = null;
        for (int i = 0; i < PROBLEMS.size(); i++) {
            int exponent = 2 + i / 3 % 3;
            x = i % 9 == 0 ? new AbelianPowers() : x;
            Due.is(PROBLEMS.get(i), Due.problem(x, PROBLEMS.get(i)), exponent);
            Due.is("its kind", x.problem(0), i / 9);
            Due.is("its exponent", x.problem(1), exponent);
            Due.is("its letters", x.problem(2), 2 + i % 3);
            Due.is("the input is empty then", x.parseProblem(), -100);
        }
    }

    /** The position of the fault of each text, or -1; the first problem stays where there is one. */
    private static void faults(String[] texts, int... positions) {
        for (int i = 0; i < texts.length; i++) {
            AbelianPowers x = new AbelianPowers();
            Due.is("parseProblem of '" + texts[i] + "'", Due.problem(x, texts[i]), -100 - positions[i]);
            Due.is("the kind then", x.problem(0), 1);
            Due.is("the exponent then", x.problem(1), 2);
            Due.is("the letters then", x.problem(2), 3);
            Due.is("the input is empty then", x.feed(97), 1);
        }
    }

    private static void numbersAreOneDigit() {
        Doc.says(3, "Both numbers are one digit.");
        faults(new String[] {"mixed 22 2", "mixed 02 2", "mixed +2 2", "mixed 2 22", "mixed 2 02", "mixed 2 2.", "mixed 10 2"},
            7, 6, 6, 9, 8, 9, 6);
    }

    private static AbelianPowers withEverything() {
        AbelianPowers x = new AbelianPowers();
        for (int i = 0; i < 3; i++) {
            Due.word(x, i, "abc");
            x.setValue(i, -9 + i);
        }
        Due.morphism(x, "abca", "b", "ca");
        x.newArray(1, 2);
        x.setElement(1, 1, 7);
        return x;
    }

    private static void otherNumberOfLetters() {
        Doc.says(3, "If the number of letters changes, all word registers become empty, all images are removed, and the "
            + "values become those at first.");
        for (int k = 2; k <= 4; k += 2) {
            AbelianPowers x = withEverything();
            // The kind and the exponent stay: it is the number of letters that counts.
            Due.is("parseProblem", Due.problem(x, "abelian 2 " + k), 2);
            Due.all("length", 0, x::length, 0, 1, 2);
            for (int i = 0; i < k; i++) {
                Due.is("imageLength", x.imageLength(i), 0);
                Due.is("previous value plus 10", x.setValue(i, 9), 10 + i);
            }
            Due.is("an array stays", x.element(1, 1), 7);
            Due.is("back to three letters", Due.problem(x, "abelian 2 3"), 2);
            Due.all("imageLength with three letters again", 0, x::imageLength, 0, 1, 2);
            for (int i = 0; i < 3; i++) {
                Due.is("previous value plus 10 with three letters again", x.setValue(i, 0), 10 + i);
            }
        }
    }

    private static void sameNumberOfLetters() {
        Doc.says(3, "If the number of letters changes");
        AbelianPowers x = withEverything();
        Due.is("parseProblem", Due.problem(x, "mixed 4 3"), 4);
        for (int i = 0; i < 3; i++) {
            Due.textIs(x, i, "abc");
            Due.is("previous value plus 10", x.setValue(i, 0), 1 + i);
        }
        Due.same("the image of a", Due.imageText(x, 0), "abca");
        Due.same("the image of b", Due.imageText(x, 1), "b");
        Due.same("the image of c", Due.imageText(x, 2), "ca");
    }

    private static void problemsThatEndTooEarly() {
        Doc.says(3, "The error position is the offset of the first byte that cannot continue a problem, or the length of the "
            + "input if it ends too early");
        for (String problem : PROBLEMS) {
            for (int n = 0; n < problem.length(); n++) {
                faults(new String[] {problem.substring(0, n)}, n);
            }
        }
    }

    private static boolean beginsAProblem(String text) {
        return PROBLEMS.stream().anyMatch(problem -> problem.startsWith(text));
    }

    private static void bytesThatCannotContinue() {
        Doc.says(3, "the offset of the first byte that cannot continue a problem");
        for (String problem : List.of("equal 3 2", "abelian 2 3", "additive 4 4", "mixed 2 2")) {
            for (int n = 0; n < problem.length(); n++) {
                for (char b = 1; b <= 127; b++) {
                    String start = problem.substring(0, n) + b;
                    if (!beginsAProblem(start)) {
                        faults(new String[] {start, start + problem.substring(n + 1)}, n, n);
                    }
                }
            }
        }
        faults(new String[] {"equel 9 9", "abditive 2 2", "adelian 2 2", "abelia  2 2", "Mixed 2 2", " mixed 2 2"},
            3, 2, 2, 6, 0, 0);
    }

    private static void bytesBehindAProblem() {
        Doc.says(3, "the offset of the first byte that cannot continue a problem");
        for (String problem : PROBLEMS) {
            faults(new String[] {problem + " ", problem + "2", problem + "\u0001", problem + "xxx"},
                problem.length(), problem.length(), problem.length(), problem.length());
        }
    }

    private static void digitsOutOfRange() {
        Doc.says(3, "a digit that is out of range cannot continue a problem.");
        for (String digit : List.of("0", "1", "5", "6", "7", "8", "9")) {
            faults(new String[] {"equal " + digit + " 3", "equal " + digit, "equal 2 " + digit, "additive 4 " + digit + "x"},
                6, 6, 8, 11);
        }
    }

    private static void positionsOfFaults() {
        Doc.says(3, "SYNTAX_ERROR - p for a syntax error at position p.");
        AbelianPowers x = new AbelianPowers();
        Due.is("position 0", Due.problem(x, "x"), AbelianPowers.SYNTAX_ERROR);
        Due.is("position 1", Due.problem(x, "ax"), AbelianPowers.SYNTAX_ERROR - 1);
        Due.is("position 12 of 16 bytes", Due.problem(x, "additive 2 2abcd"), AbelianPowers.SYNTAX_ERROR - 12);
        Due.is("position 11, the end", Due.problem(x, "additive 2 "), AbelianPowers.SYNTAX_ERROR - 11);
    }

    // ---- promise 4

    private static void partsOfTheProblem() {
        Doc.says(4, "Returns a part of the problem.", "`what`: 0 the kind (0 equal, 1 abelian, 2 additive, 3 mixed), 1 the "
            + "exponent, 2 the number of letters", "Returns the part");
        for (int kind = 0; kind < 4; kind++) {
            AbelianPowers x = Due.withProblem(KINDS[kind] + " 3 4");
            Due.is("problem(0)", x.problem(0), kind);
            Due.is("problem(1)", x.problem(1), 3);
            Due.is("problem(2)", x.problem(2), 4);
        }
    }

    private static void partsThatThereAreNot() {
        Doc.says(4, "BAD_ARGUMENT.");
        AbelianPowers x = new AbelianPowers();
        Due.all("problem", -1, x::problem, Due.outside(0, 2));
    }

    // ---- promise 5

    private static void valuesAreSet() {
        Doc.says(5, "Sets the value of a letter.", "Returns the previous value plus 10");
        AbelianPowers x = new AbelianPowers();
        Due.is("setValue(2, -9)", x.setValue(2, -9), 12);
        Due.is("setValue(2, 9)", x.setValue(2, 9), 1);
        Due.is("setValue(2, 9)", x.setValue(2, 9), 19);
        Due.is("setValue(2, 0)", x.setValue(2, 0), 19);
        Due.is("setValue(2, 0)", x.setValue(2, 0), 10);
        Due.is("the value of a stays", x.setValue(0, 1), 10);
        Due.is("the value of b stays", x.setValue(1, 1), 11);
    }

    private static void lettersOfSetValue() {
        Doc.says(5, "`letter`: the letter, 0 to k - 1", "BAD_ARGUMENT");
        for (int k = 2; k <= 4; k++) {
            AbelianPowers x = Due.withProblem("abelian 2 " + k);
            Due.all("setValue of a letter that there is not", -1, letter -> x.setValue(letter, 5), Due.outside(0, k - 1));
            for (int letter = 0; letter < k; letter++) {
                Due.is("setValue of a letter", x.setValue(letter, 5), 10 + letter);
            }
        }
    }

    private static void valuesOfSetValue() {
        Doc.says(5, "`value`: the value, -9 to 9", "BAD_ARGUMENT");
        AbelianPowers x = new AbelianPowers();
        Due.all("setValue of a wrong value", -1, value -> x.setValue(1, value), Due.outside(-9, 9));
        Due.is("nothing was set", x.setValue(1, -9), 11);
        Due.all("setValue of a wrong value", -1, value -> x.setValue(1, value), -10, 10);
        Due.is("the smallest value was set", x.setValue(1, 9), 1);
        Due.is("the greatest value was set", x.setValue(1, 0), 19);
    }
}
