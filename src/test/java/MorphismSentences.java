import java.util.ArrayList;
import java.util.List;

/** Promises 20 to 24, sentence by sentence: images, words replaced by their images, and the matrix. */
final class MorphismSentences {
    private MorphismSentences() {
    }

    static void ask() {
        imagesAreParsed();
        lettersOfAnImage();
        anImageReplacesThatOfItsLetter();
        imagesThatEndTooEarly();
        bytesThatCannotContinueAnImage();
        lettersOutsideTheAlphabet();
        positionsOfFaults();
        lengthOfAnImage();
        lettersOfImageLength();
        wordsAreReplaced();
        registersOfApply();
        wordsWithoutAnImage();
        imagesOfFortyLetters();
        wordsThatAreReached();
        registersAndLettersOfIterate();
        iterateNeedsAllImages();
        lettersThatAreNotProlongable();
        determinants();
        determinantNeedsAllImages();
    }

    // ---- promise 20

    private static void imagesAreParsed() {
        Doc.says(20, "Parses the input as an image.", "Returns the letter");
        AbelianPowers x = Due.withProblem("abelian 2 4");
        Due.is("a:d", Due.image(x, "a:d"), 0);
        Due.is("d:abcd", Due.image(x, "d:abcd"), 3);
        Due.same("the image of a", Due.imageText(x, 0), "d");
        Due.same("the image of d", Due.imageText(x, 3), "abcd");
        Due.is("the input is empty then", x.feed(97), 1);
    }

    private static void lettersOfAnImage() {
        Doc.says(20, "It is written as a letter, a colon, and 1 to 4 letters.");
        for (int n = 1; n <= 4; n++) {
            AbelianPowers x = new AbelianPowers();
            String image = "cabb".substring(0, n);
            Due.is("an image of " + n, Due.image(x, "b:" + image), 1);
            Due.is("its length", x.imageLength(1), n);
            Due.same("the image", Due.imageText(x, 1), image);
        }
        AbelianPowers x = new AbelianPowers();
        Due.is("no letters", Due.image(x, "b:"), -102);
        Due.is("five letters", Due.image(x, "b:aaaaa"), -106);
        Due.is("16 bytes", Due.image(x, "b:aaaaaaaaaaaaaa"), -106);
        Due.is("no image", x.imageLength(1), 0);
    }

    private static void anImageReplacesThatOfItsLetter() {
        Doc.says(20, "It becomes the image of that letter.");
        AbelianPowers x = Due.withMorphism(3, "abca", "bb", "c");
        Due.is("a:b", Due.image(x, "a:b"), 0);
        Due.same("the image of a", Due.imageText(x, 0), "b");
        Due.same("the image of b", Due.imageText(x, 1), "bb");
        Due.same("the image of c", Due.imageText(x, 2), "c");
        Due.is("a:bc:", Due.image(x, "a:bc:"), -104);
        Due.is("b:", Due.image(x, "b:"), -102);
        Due.is("c:abcab", Due.image(x, "c:abcab"), -106);
        Due.same("the image of a after a fault", Due.imageText(x, 0), "b");
        Due.same("the image of b after a fault", Due.imageText(x, 1), "bb");
        Due.same("the image of c after a fault", Due.imageText(x, 2), "c");
    }

    private static void faults(int letters, String text, int position) {
        AbelianPowers x = Due.withProblem("abelian 2 " + letters);
        Due.is("parseImage of '" + text + "' with " + letters + " letters", Due.image(x, text), -100 - position);
        for (int letter = 0; letter < letters; letter++) {
            Due.is("imageLength after a fault", x.imageLength(letter), 0);
        }
        Due.is("the input is empty then", x.feed(97), 1);
    }

    private static void imagesThatEndTooEarly() {
        Doc.says(20, "The error position is defined as for parseProblem");
        for (int k = 2; k <= 4; k++) {
            faults(k, "", 0);
            faults(k, "a", 1);
            faults(k, "b:", 2);
        }
    }

    /** All beginnings of the image b:abab, each with all bytes that cannot follow there. */
    private static void bytesThatCannotContinueAnImage() {
        Doc.says(20, "The error position is defined as for parseProblem");
        String image = "b:abab";
        for (int k = 2; k <= 4; k++) {
            for (int n = 0; n <= image.length(); n++) {
                for (char b = 1; b <= 127; b++) {
                    if (!continues(b, n, k)) {
                        faults(k, image.substring(0, n) + b, n);
                        faults(k, image.substring(0, n) + b + ":a", n);
                    }
                }
            }
        }
    }

    private static boolean continues(char b, int n, int letters) {
        boolean letter = b >= 'a' && b < 'a' + letters;
        return n == 1 ? b == ':' : n < 6 && letter;
    }

    private static void lettersOutsideTheAlphabet() {
        Doc.says(20, "a letter that is not in the alphabet cannot continue an image.");
        for (int k = 2; k <= 4; k++) {
            char last = (char) ('a' + k - 1);
            char next = (char) ('a' + k);
            AbelianPowers x = Due.withProblem("abelian 2 " + k);
            Due.is("the last letter", Due.image(x, last + ":" + last), k - 1);
            Due.is("the next letter", Due.image(x, next + ":a"), -100);
            Due.is("the next letter in an image", Due.image(x, "a:" + next), -102);
            Due.is("the next letter at the end", Due.image(x, "a:aaa" + next), -105);
            Due.is("a great letter", Due.image(x, "A:a"), -100);
            Due.is("the byte before a", Due.image(x, "`:a"), -100);
            Due.is("no image", x.imageLength(0), 0);
        }
    }

    private static void positionsOfFaults() {
        Doc.says(20, "SYNTAX_ERROR - p for a syntax error at position p.");
        AbelianPowers x = new AbelianPowers();
        String[] texts = {"?", "a?", "a:?", "a:a?", "a:aa?", "a:aaa?", "a:aaaa?"};
        for (int p = 0; p < texts.length; p++) {
            Due.is(texts[p], Due.image(x, texts[p]), AbelianPowers.SYNTAX_ERROR - p);
        }
    }

    // ---- promise 21

    private static void lengthOfAnImage() {
        Doc.says(21, "Returns the length of an image.", "Returns the number of letters, 0 if the image is missing");
        AbelianPowers x = Due.withMorphism(4, "a", "bbbb", "cc");
        int[] lengths = {1, 4, 2, 0};
        for (int letter = 0; letter < 4; letter++) {
            Due.is("imageLength(" + letter + ")", x.imageLength(letter), lengths[letter]);
        }
    }

    private static void lettersOfImageLength() {
        Doc.says(21, "`letter`: the letter", "BAD_ARGUMENT.");
        for (int k = 2; k <= 4; k++) {
            AbelianPowers x = Due.withProblem("abelian 2 " + k);
            Due.all("imageLength", -1, x::imageLength, Due.outside(0, k - 1));
            Due.is("imageLength(0)", x.imageLength(0), 0);
            Due.is("imageLength(k - 1)", x.imageLength(k - 1), 0);
        }
    }

    // ---- promise 22

    private static void wordsAreReplaced() {
        Doc.says(22, "Replaces a word by its image.", "Returns the new length");
        AbelianPowers x = Due.withMorphism(3, "abca", "c", "ba");
        Due.word(x, 0, "cab");
        Due.word(x, 1, "cab");
        Due.is("apply(1)", x.apply(1), 7);
        Due.textIs(x, 1, "baabcac");
        Due.textIs(x, 0, "cab");
        Due.is("apply to an empty word", x.apply(2), 0);
        Due.textIs(x, 2, "");
    }

    private static void registersOfApply() {
        Doc.says(22, "`word`: the word register", "BAD_ARGUMENT");
        AbelianPowers x = new AbelianPowers();
        Due.all("apply", -1, x::apply, Due.outside(0, 2));
        Due.all("apply to empty words, though all images are missing", 0, x::apply, 0, 1, 2);
    }

    private static void wordsWithoutAnImage() {
        Doc.says(22, "MISSING_IMAGE if the image of one of its letters is missing");
        AbelianPowers x = new AbelianPowers();
        Due.image(x, "b:cc");
        for (String word : new String[] {"a", "ab", "ba", "bbbbc"}) {
            Due.word(x, 0, word);
            Due.is("apply to " + word, x.apply(0), -6);
            Due.textIs(x, 0, word);
        }
        Due.word(x, 0, "bb");
        Due.is("the images of other letters may be missing", x.apply(0), 4);
        Due.textIs(x, 0, "cccc");
        Due.word(x, 0, "b".repeat(21) + "a");
        Due.is("it goes before too many letters", x.apply(0), -6);
        Due.textIs(x, 0, "b".repeat(21) + "a");
    }

    private static void imagesOfFortyLetters() {
        Doc.says(22, "FULL if the result would have more than 40 letters.");
        AbelianPowers x = Due.withMorphism(3, "abca", "c", "ba");
        Due.word(x, 0, "a".repeat(10));
        Due.is("40 letters", x.apply(0), 40);
        Due.textIs(x, 0, "abca".repeat(10));
        Due.word(x, 1, "a".repeat(10) + "b");
        Due.is("41 letters", x.apply(1), -3);
        Due.textIs(x, 1, "a".repeat(10) + "b");
        Due.word(x, 1, "b".repeat(40));
        Due.is("40 letters of 40", x.apply(1), 40);
        Due.textIs(x, 1, "c".repeat(40));
        Due.word(x, 1, "a".repeat(40));
        Due.is("160 letters", x.apply(1), -3);
        Due.textIs(x, 1, "a".repeat(40));
    }

    // ---- promise 23

    private static void wordsThatAreReached() {
        Doc.says(23, "Replaces a word by the first 40 letters of the word that is reached when the morphism is applied again "
            + "and again to a letter.", "Returns 40");
        reached("a" + "b".repeat(39), 0, "ab", "b");
        reached("a".repeat(40), 0, "aa", "a");
        reached("b" + "a".repeat(39), 1, "a", "ba");
        reached("abaababaabaababaababaabaababaabaababaaba", 0, "ab", "a");
        reached("abbabaabbaababbabaababbaabbabaabbaababba", 0, "ab", "ba");
        // Four letters each: the ten first images are all that is needed.
        reached("aaab".repeat(3) + "bbbb" + "aaab".repeat(3) + "bbbb" + "aaab".repeat(2), 0, "aaab", "bbbb");
    }

    private static void reached(String word, int letter, String... images) {
        AbelianPowers x = Due.withMorphism(2, images);
        Due.word(x, 0, "bbabb");
        Due.word(x, 1, "bbabb");
        Due.is("iterate", x.iterate(1, letter), 40);
        Due.textIs(x, 1, word);
        Due.textIs(x, 0, "bbabb");
    }

    private static void registersAndLettersOfIterate() {
        Doc.says(23, "`word`: the word register", "`letter`: the letter", "BAD_ARGUMENT");
        for (int k = 2; k <= 4; k++) {
            List<String> images = new ArrayList<>();
            for (int letter = 0; letter < k; letter++) {
                images.add(("" + (char) ('a' + letter)).repeat(2));
            }
            AbelianPowers x = Due.withMorphism(k, images.toArray(new String[0]));
            Due.all("iterate", -1, w -> x.iterate(w, 0), Due.outside(0, 2));
            Due.all("iterate", -1, letter -> x.iterate(0, letter), Due.outside(0, k - 1));
            Due.all("length after refused calls", 0, x::length, 0, 1, 2);
            Due.all("iterate", 40, w -> x.iterate(w, 0), 0, 1, 2);
            Due.is("the last letter", x.iterate(0, k - 1), 40);
            Due.textIs(x, 0, ("" + (char) ('a' + k - 1)).repeat(40));
        }
    }

    private static void iterateNeedsAllImages() {
        Doc.says(23, "MISSING_IMAGE if any image is missing");
        for (int missing = 0; missing < 3; missing++) {
            AbelianPowers x = new AbelianPowers();
            Due.word(x, 0, "cab");
            for (int letter = 0; letter < 3; letter++) {
                if (letter != missing) {
                    Due.image(x, "abc".charAt(letter) + ":" + "abc".charAt(letter) + "a");
                }
            }
            for (int letter = 0; letter < 3; letter++) {
                Due.is("iterate(0, " + letter + ")", x.iterate(0, letter), -6);
            }
            Due.all("a letter that there is not goes before", -1, letter -> x.iterate(0, letter), -1, 3);
            Due.all("a register that there is not goes before", -1, w -> x.iterate(w, 0), -1, 3);
            Due.textIs(x, 0, "cab");
        }
    }

    private static void lettersThatAreNotProlongable() {
        Doc.says(23, "NOT_PROLONGABLE if the image of the letter does not begin with it or has one letter only.");
        AbelianPowers x = Due.withMorphism(3, "a", "abbb", "cb");
        Due.word(x, 0, "cab");
        Due.is("the image has one letter only", x.iterate(0, 0), -7);
        Due.is("the image does not begin with the letter", x.iterate(0, 1), -7);
        Due.textIs(x, 0, "cab");
        Due.is("an image of two letters", x.iterate(0, 2), 40);
        Due.image(x, "c:a");
        Due.is("one letter only, another one", x.iterate(0, 2), -7);
    }

    // ---- promise 24

    private static void determinants() {
        Doc.says(24, "Returns the determinant of the matrix of the morphism.", "Returns the determinant");
        Due.is("the greatest diagonal", Due.withMorphism(4, "aaaa", "bbbb", "cccc", "dddd").determinant(), 256);
        Due.is("with two letters exchanged", Due.withMorphism(4, "bbbb", "aaaa", "cccc", "dddd").determinant(), -256);
        Due.is("0", Due.withMorphism(2, "ab", "abba").determinant(), 0);
        Due.is("1", Due.withMorphism(2, "a", "b").determinant(), 1);
        Due.is("-1", Due.withMorphism(2, "b", "a").determinant(), -1);
        // Rows (2 1) and (1 3).
        Due.is("two letters", Due.withMorphism(2, "aab", "abbb").determinant(), 5);
        // Rows (1 0 2), (2 1 0), (0 3 1): 1 (1 1 - 0 3) - 0 + 2 (2 3 - 1 0).
        Due.is("three letters", Due.withMorphism(3, "abb", "bccc", "aac").determinant(), 13);
    }

    private static void determinantNeedsAllImages() {
        Doc.says(24, "Long.MIN_VALUE if any image is missing.");
        for (int k = 2; k <= 4; k++) {
            AbelianPowers x = Due.withProblem("abelian 2 " + k);
            for (int letter = k - 1; letter >= 0; letter--) {
                Due.is("determinant", x.determinant(), Long.MIN_VALUE);
                Due.image(x, "abcd".charAt(letter) + ":" + "abcd".charAt(letter));
            }
            Due.is("determinant", x.determinant(), 1);
        }
    }
}
