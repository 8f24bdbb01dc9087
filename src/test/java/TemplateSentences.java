import java.util.ArrayList;
import java.util.Arrays;
import java.util.List;

/** Promises 25 to 27, sentence by sentence: the closure, its templates and their occurrences. */
final class TemplateSentences {
    /** Templates of the closure of a, b: the ends, -1 for an empty one, and the numbers. */
    private static final int SQUARE = 0;
    private static final int X1_X2_A_WITH_LESS = 1;
    private static final int X1_X2_A = 2;
    private static final int A_X1_X2 = 25;
    private static final int B_X1_B_X2_B_WITH_MORE = 112;

    private TemplateSentences() {
    }

    static void ask() {
        closureIsRememberedInPlaceOfTheOneBefore();
        noneIsRememberedAtFirst();
        numberOfTemplates();
        closureNeedsAllImages();
        singularMorphisms();
        moreThanTwoHundredTemplates();
        partsOfATemplate();
        templatesAreNumberedInTheirOrder();
        laterChangesDoNotMatter();
        templatesThatThereAreNot();
        partsThatAreNotValid();
        theLowestPosition();
        theShortestParts();
        occurrenceAsANumber();
        registersOfOccurrence();
        occurrencesOfTemplatesThatThereAreNot();
        anotherNumberOfLetters();
        noOccurrence();
    }

    /** The closure of a morphism of two letters; an object is used for less than 512 calls. */
    static List<int[]> closure(String... images) {
        List<int[]> all = new ArrayList<>();
        int size = Due.withMorphism(2, images).computeClosure();
        AbelianPowers x = null;
        for (int i = 0; i < size; i++) {
            if (i % 90 == 0) {
                x = Due.withMorphism(2, images);
                x.computeClosure();
            }
            int[] template = new int[5];
            for (int what = 0; what < 5; what++) {
                template[what] = x.template(i, what) - 10;
            }
            all.add(template);
        }
        return all;
    }

    private static AbelianPowers identity() {
        AbelianPowers x = Due.withMorphism(2, "a", "b");
        x.computeClosure();
        return x;
    }

    private static void templateIs(AbelianPowers x, int i, int... parts) {
        for (int what = 0; what < parts.length; what++) {
            Due.is("template(" + i + ", " + what + ")", x.template(i, what), parts[what] + 10);
        }
    }

    // ---- promise 25

    private static void closureIsRememberedInPlaceOfTheOneBefore() {
        Doc.says(25, "Computes the closure and remembers it, in place of the one remembered before.");
        AbelianPowers x = Due.withMorphism(2, "abb", "aaab");
        Due.is("200 templates", x.computeClosure(), 200);
        Due.that("the last one", x.template(199, 0) > 0);
        Due.morphism(x, "a", "b");
        Due.that("another morphism alone changes nothing", x.template(199, 0) > 0);
        Due.is("113 templates", x.computeClosure(), 113);
        Due.is("the later ones are gone", x.template(113, 0), -2);
        templateIs(x, 112, 1, 1, 1, 0, 2);
        Due.is("computed again", x.computeClosure(), 113);
        templateIs(x, 112, 1, 1, 1, 0, 2);
    }

    private static void noneIsRememberedAtFirst() {
        Doc.says(25, "None is remembered at first.");
        AbelianPowers x = Due.withMorphism(2, "a", "b");
        Due.word(x, 0, "aa");
        Due.all("template", -2, i -> x.template(i, 0), 0, 1, 199, -1);
        Due.is("occurrence(0, 0)", x.occurrence(0, 0), -2);
    }

    private static void numberOfTemplates() {
        Doc.says(25, "Returns the number of its templates");
        Due.is("a, b", Due.withMorphism(2, "a", "b").computeClosure(), 113);
        Due.is("b, a", Due.withMorphism(2, "b", "a").computeClosure(), 113);
        Due.is("aa, b", Due.withMorphism(2, "aa", "b").computeClosure(), 121);
    }

    private static void closureNeedsAllImages() {
        Doc.says(25, "MISSING_IMAGE if any image is missing");
        for (int k = 2; k <= 4; k++) {
            for (int missing = 0; missing < k; missing++) {
                AbelianPowers x = identity();
                Due.problem(x, "abelian 2 " + k);
                // With two letters the images of the identity are still there.
                AbelianPowers y = k == 2 ? Due.withProblem("abelian 2 2") : x;
                for (int letter = 0; letter < k; letter++) {
                    if (letter != missing) {
                        Due.image(y, "abcd".charAt(letter) + ":a");
                    }
                }
                // The matrix would be singular, too.
                Due.is("computeClosure()", y.computeClosure(), -6);
                Due.is("the closure before stays", y.template(112, 0), k == 2 ? -2 : 11);
            }
        }
    }

    private static void singularMorphisms() {
        Doc.says(25, "SINGULAR");
        Due.is("two letters", Due.withMorphism(2, "ab", "ba").computeClosure(), -8);
        Due.is("two letters, one does not occur", Due.withMorphism(2, "a", "aa").computeClosure(), -8);
        Due.is("three letters", Due.withMorphism(3, "abc", "bca", "c").computeClosure(), -8);
        Due.is("four letters", Due.withMorphism(4, "ab", "bc", "cd", "da").computeClosure(), -8);
        AbelianPowers x = identity();
        Due.morphism(x, "ab", "ab");
        Due.is("after another closure", x.computeClosure(), -8);
        templateIs(x, 112, 1, 1, 1, 0, 2);
        Due.is("its size stays", x.template(113, 0), -2);
    }

    private static void moreThanTwoHundredTemplates() {
        Doc.says(25, "LIMIT if it has more than 200 templates, and the closure remembered before stays.");
        Due.is("199 templates", Due.withMorphism(2, "baab", "aa").computeClosure(), 199);
        Due.is("200 templates", Due.withMorphism(2, "abb", "aaab").computeClosure(), 200);
        Due.is("200 templates", Due.withMorphism(2, "bbba", "baa").computeClosure(), 200);
        // There is no morphism with 201.
        Due.is("202 templates", Due.withMorphism(2, "aab", "babb").computeClosure(), -4);
        Due.is("three letters", Due.withMorphism(3, "a", "b", "c").computeClosure(), -4);
        Due.is("four letters", Due.withMorphism(4, "aaaa", "bbbb", "cccc", "dddd").computeClosure(), -4);
        AbelianPowers x = identity();
        for (String[] images : new String[][] {{"aab", "babb"}, {"ab", "a"}, {"abb", "aabb"}}) {
            Due.morphism(x, images);
            Due.is("too many", x.computeClosure(), -4);
            templateIs(x, 0, -1, -1, -1, 0, 0);
            templateIs(x, 112, 1, 1, 1, 0, 2);
            Due.is("no more than before", x.template(113, 0), -2);
        }
        Due.problem(x, "abelian 2 3");
        Due.morphism(x, "a", "b", "c");
        Due.is("too many with three letters", x.computeClosure(), -4);
        templateIs(x, 112, 1, 1, 1, 0, 2);
        Due.is("the letters are two", x.template(112, 5), -1);
    }

    // ---- promise 26

    private static void partsOfATemplate() {
        Doc.says(26, "Returns a part of a template of the remembered closure.", "Returns the end, -1 for an empty one, plus 10",
            "or the number plus 10");
        AbelianPowers x = identity();
        // Worked out by hand, from the square's parents and theirs.
        templateIs(x, SQUARE, -1, -1, -1, 0, 0);
        templateIs(x, X1_X2_A_WITH_LESS, -1, -1, 0, -1, 0);
        templateIs(x, X1_X2_A, -1, -1, 0, 0, 0);
        templateIs(x, 3, -1, -1, 1, 0, -1);
        templateIs(x, 5, -1, 0, -1, -1, 0);
        templateIs(x, 14, -1, 0, 1, 1, 0);
        templateIs(x, A_X1_X2, 0, -1, -1, 0, 0);
        templateIs(x, B_X1_B_X2_B_WITH_MORE, 1, 1, 1, 0, 2);
        Due.is("an empty end", x.template(0, 0), 9);
        Due.is("the letter a as an end", x.template(A_X1_X2, 0), 10);
        Due.is("the letter b as an end", x.template(112, 2), 11);
    }

    private static void templatesAreNumberedInTheirOrder() {
        Doc.says(26, "The templates are numbered from 0 in their order.");
        for (String[] images : new String[][] {{"a", "b"}, {"aa", "aab"}, {"abb", "aaab"}}) {
            List<int[]> all = closure(images);
            for (int i = 1; i < all.size(); i++) {
                Due.that("template " + (i - 1) + " before " + i, Arrays.compare(all.get(i - 1), all.get(i)) < 0);
            }
        }
    }

    private static void laterChangesDoNotMatter() {
        Doc.says(26, "Later changes of the problem and of the morphism do not affect the remembered closure.");
        AbelianPowers x = Due.withMorphism(2, "a", "b");
        x.saveSnapshot();
        x.computeClosure();
        Due.morphism(x, "abba", "bb");
        templateIs(x, 112, 1, 1, 1, 0, 2);
        Due.problem(x, "mixed 4 2");
        templateIs(x, 112, 1, 1, 1, 0, 2);
        Due.problem(x, "mixed 4 4");
        templateIs(x, 112, 1, 1, 1, 0, 2);
        Due.is("no more templates", x.template(113, 0), -2);
        x.restoreSnapshot();
        templateIs(x, 112, 1, 1, 1, 0, 2);
    }

    private static void templatesThatThereAreNot() {
        Doc.says(26, "`i`: the number of the template", "NONE if there is no such template");
        AbelianPowers x = identity();
        Due.all("template", -2, i -> x.template(i, 0), Due.outside(0, 112));
        Due.all("template without a valid part", -2, i -> x.template(i, -1), Due.outside(0, 112));
        Due.is("the first", x.template(0, 0), 9);
        Due.is("the last", x.template(112, 0), 11);
        AbelianPowers y = Due.withMorphism(2, "abb", "aaab");
        y.computeClosure();
        Due.that("the last of 200", y.template(199, 0) > 0);
        Due.all("template of 200", -2, i -> y.template(i, 0), Due.outside(0, 199));
        AbelianPowers z = new AbelianPowers();
        Due.all("template without a closure", -2, i -> z.template(i, 0), 0, 1, 200, -1);
        Due.all("no closure goes before a part that is not valid", -2, what -> z.template(0, what), -1, 3, 6, 7);
    }

    private static void partsThatAreNotValid() {
        Doc.says(26, "`what`: 0, 1 or 2 for an end, 3 + x for the number of the difference for letter x, where the letters are "
            + "those of the time of the computation", "BAD_ARGUMENT if what is not valid.");
        AbelianPowers x = identity();
        for (int k = 2; k <= 4; k++) {
            Due.problem(x, "abelian 2 " + k);
            Due.all("template(0, ..)", -1, what -> x.template(0, what), Due.outside(0, 4));
            Due.all("template(112, ..)", -1, what -> x.template(112, what), Due.outside(0, 4));
            Due.is("the number for letter 0", x.template(1, 3), 9);
            Due.is("the number for letter 1", x.template(112, 4), 12);
        }
    }

    // ---- promise 27

    private static int occurrence(String word, int i) {
        AbelianPowers x = identity();
        Due.word(x, 1, word);
        int answer = x.occurrence(1, i);
        Due.textIs(x, 1, word);
        return answer;
    }

    private static void theLowestPosition() {
        Doc.says(27, "Returns the first occurrence of a template of the remembered closure in a word: the one with the lowest "
            + "position");
        // abba, which ends after bb, begins before it.
        Due.is("square in abba", occurrence("abba", SQUARE), 202);
        Due.is("square in abaab", occurrence("abaab", SQUARE), 10202);
        Due.is("a X1 X2 in bba", occurrence("bba", A_X1_X2), 20000);
    }

    private static void theShortestParts() {
        Doc.says(27, "among these the one with the shortest X1", "among these the one with the shortest X2.");
        Due.is("square in aaaaaa", occurrence("aaaaaa", SQUARE), 101);
        Due.is("square in abababab", occurrence("abababab", SQUARE), 202);
        Due.is("X1 X2 a in aa: both empty", occurrence("aa", X1_X2_A), 0);
        Due.is("a X1 X2 in aaa: both empty", occurrence("aaa", A_X1_X2), 0);
        Due.is("b X1 b X2 b in bbbbbbb", occurrence("bbbbbbb", B_X1_B_X2_B_WITH_MORE), 2);
    }

    private static void occurrenceAsANumber() {
        Doc.says(27, "Returns 10000 times the position plus 100 times the length of X1 plus the length of X2");
        String b = "b".repeat(39);
        Due.is("the last position", occurrence(b + "a", A_X1_X2), 390000);
        // X1 = a b^19, X2 = b^19: no shorter X2 has an a behind it.
        Due.is("the longest X1", occurrence("a" + b.substring(1) + "a", X1_X2_A_WITH_LESS), 2019);
        Due.is("position 1, 19 and 19 letters", occurrence(b + "a", X1_X2_A), 11919);
        Due.is("X1 is empty, X2 is not", occurrence("bbbbb", B_X1_B_X2_B_WITH_MORE), 2);
        Due.is("X2 is empty, X1 is not", occurrence("aa", X1_X2_A_WITH_LESS), 100);
        Due.is("position 0, both empty", occurrence("a", A_X1_X2), 0);
    }

    private static void registersOfOccurrence() {
        Doc.says(27, "`word`: the word register", "BAD_ARGUMENT if there is no such register");
        AbelianPowers x = identity();
        Due.all("occurrence", -1, w -> x.occurrence(w, 0), Due.outside(0, 2));
        Due.all("occurrence without register and template", -1, w -> x.occurrence(w, 113), Due.outside(0, 2));
        AbelianPowers y = new AbelianPowers();
        Due.all("occurrence without register and closure", -1, w -> y.occurrence(w, 0), Due.outside(0, 2));
        for (int w = 0; w < 3; w++) {
            Due.word(x, w, "b".repeat(w) + "a");
            Due.is("occurrence(" + w + ", ..)", x.occurrence(w, A_X1_X2), 10000 * w);
        }
    }

    private static void occurrencesOfTemplatesThatThereAreNot() {
        Doc.says(27, "`i`: the number of the template", "NONE if there is no such template");
        AbelianPowers x = identity();
        Due.word(x, 0, "b".repeat(40));
        Due.all("occurrence", -2, i -> x.occurrence(0, i), Due.outside(0, 112));
        Due.is("the first template", x.occurrence(0, 0), 101);
        Due.is("the last template", x.occurrence(0, 112), 2);
    }

    private static void anotherNumberOfLetters() {
        Doc.says(27, "or the number of letters is another one than at the time of the computation");
        AbelianPowers x = identity();
        for (int k = 3; k <= 4; k++) {
            Due.problem(x, "abelian 2 " + k);
            Due.word(x, 0, "aa");
            Due.is("with " + k + " letters", x.occurrence(0, SQUARE), -2);
        }
        Due.problem(x, "equal 4 2");
        Due.word(x, 0, "abba");
        Due.is("with two letters, whatever the kind", x.occurrence(0, SQUARE), 202);
        x.setValue(0, 1);
        Due.problem(x, "additive 3 2");
        Due.is("with two letters, whatever their values", x.occurrence(0, SQUARE), 202);
    }

    private static void noOccurrence() {
        Doc.says(27, "or there is no occurrence.");
        Due.is("square in an empty word", occurrence("", SQUARE), -2);
        Due.is("a X1 X2 in an empty word", occurrence("", A_X1_X2), -2);
        Due.is("square in a", occurrence("a", SQUARE), -2);
        Due.is("square in aba", occurrence("aba", SQUARE), -2);
        Due.is("a X1 X2 in a full word of b", occurrence("b".repeat(40), A_X1_X2), -2);
        Due.is("b X1 b X2 b in bbbb", occurrence("bbbb", B_X1_B_X2_B_WITH_MORE), -2);
        Due.is("X1 X2 a, X1 with an a more, in a", occurrence("a", X1_X2_A_WITH_LESS), -2);
    }
}
