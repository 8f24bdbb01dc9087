/** Promises 20 to 24: images, words replaced by their images, and the matrix. */
public final class MorphismTest {
    public static void main(String[] args) {
        imagesAreParsed();
        faultsOfImages();
        faultLeavesTheImages();
        lettersOfTheAlphabetAlone();
        lengthsOfImages();
        wordsAreReplaced();
        errorsOfApply();
        wordsAreIterated();
        errorsOfIterate();
        determinants();
        Due.end();
    }

    /** Promise 20. */
    private static void imagesAreParsed() {
        AbelianPowers x = new AbelianPowers();
        Due.is("a:c", Due.image(x, "a:c"), 0);
        Due.is("b:ba", Due.image(x, "b:ba"), 1);
        Due.is("c:abca", Due.image(x, "c:abca"), 2);
        Due.word(x, 0, "abc");
        Due.is("apply(0)", x.apply(0), 7);
        Due.textIs(x, 0, "cbaabca");
        Due.is("a later image takes the place", Due.image(x, "c:b"), 2);
        Due.word(x, 0, "cca");
        Due.is("apply(0)", x.apply(0), 3);
        Due.textIs(x, 0, "bbc");
    }

    private static void faultsOfImages() {
        AbelianPowers x = new AbelianPowers();
        String[] texts = {
            "", "d:a", ":a", "A:a", " a:b", "1", "a", "ab", "a :b", "a;b", "a:", "a::", "a:d", "a: a", "a:ad", "a:abd",
            "a:abcd", "a:abca ", "a:abcaa", "a:ab ", "a:a:", "b:abcabcabcabcabc", "equal 2 2"};
        int[] positions = {0, 0, 0, 0, 0, 0, 1, 1, 1, 1, 2, 2, 2, 2, 3, 4, 5, 6, 6, 4, 3, 6, 0};
        for (int i = 0; i < texts.length; i++) {
            Due.is("parseImage() of '" + texts[i] + "'", Due.image(x, texts[i]), -100 - positions[i]);
            Due.is("the input is empty then", x.feed(97), 1);
            x.parseImage();
        }
        for (int i = 0; i < 3; i++) {
            Due.is("no image came of that", x.imageLength(i), 0);
        }
    }

    private static void faultLeavesTheImages() {
        AbelianPowers x = Due.withMorphism(3, "abc", "b", "ca");
        Due.is("a:ccaab", Due.image(x, "a:ccaab"), -106);
        Due.is("a:cx", Due.image(x, "a:cx"), -103);
        Due.is("a:", Due.image(x, "a:"), -102);
        Due.word(x, 0, "a");
        Due.is("apply(0)", x.apply(0), 3);
        Due.textIs(x, 0, "abc");
    }

    private static void lettersOfTheAlphabetAlone() {
        AbelianPowers x = Due.withMorphism(4);
        Due.is("d:dcba with four letters", Due.image(x, "d:dcba"), 3);
        Due.is("e:a with four letters", Due.image(x, "e:a"), -100);
        Due.is("a:e with four letters", Due.image(x, "a:e"), -102);
        x = Due.withMorphism(2);
        Due.is("c:a with two letters", Due.image(x, "c:a"), -100);
        Due.is("a:abc with two letters", Due.image(x, "a:abc"), -104);
        Due.is("b:b with two letters", Due.image(x, "b:b"), 1);
    }

    /** Promise 21. */
    private static void lengthsOfImages() {
        AbelianPowers x = Due.withMorphism(3, "abca", "b");
        Due.is("imageLength(0)", x.imageLength(0), 4);
        Due.is("imageLength(1)", x.imageLength(1), 1);
        Due.is("imageLength(2)", x.imageLength(2), 0);
        Due.is("imageLength(3)", x.imageLength(3), -1);
        Due.is("imageLength(-1)", x.imageLength(-1), -1);
        Due.is("imageLength(MAX)", x.imageLength(Integer.MAX_VALUE), -1);
    }

    /** Promise 22. */
    private static void wordsAreReplaced() {
        AbelianPowers x = Due.withMorphism(3, "abca", "b");
        Due.is("apply to an empty word", x.apply(0), 0);
        Due.word(x, 0, "aab");
        Due.word(x, 1, "a");
        Due.is("apply(0)", x.apply(0), 9);
        Due.textIs(x, 0, "abcaabcab");
        Due.textIs(x, 1, "a");
        Due.word(x, 2, "aaaaaaaaaa");
        Due.is("exactly 40 letters", x.apply(2), 40);
        Due.textIs(x, 2, "abcaabcaabcaabcaabcaabcaabcaabcaabcaabca");
    }

    private static void errorsOfApply() {
        AbelianPowers x = Due.withMorphism(3, "abca", "b");
        Due.is("apply(3)", x.apply(3), -1);
        Due.is("apply(-1)", x.apply(-1), -1);
        Due.word(x, 0, "abc");
        Due.is("the image of c is missing", x.apply(0), -6);
        Due.textIs(x, 0, "abc");
        Due.word(x, 0, "aaaaaaaaaab");
        Due.is("41 letters", x.apply(0), -3);
        Due.textIs(x, 0, "aaaaaaaaaab");
        Due.word(x, 0, "aaaaaaaaaaac");
        Due.is("a missing image goes before too many letters", x.apply(0), -6);
        Due.textIs(x, 0, "aaaaaaaaaaac");
    }

    /** Promise 23. */
    private static void wordsAreIterated() {
        AbelianPowers x = Due.withMorphism(2, "ab", "ba");
        Due.word(x, 2, "bbb");
        Due.is("iterate(2, 0)", x.iterate(2, 0), 40);
        Due.textIs(x, 2, "abbabaabbaababbabaababbaabbabaabbaababba");
        Due.is("iterate(0, 1)", x.iterate(0, 1), 40);
        Due.textIs(x, 0, "baababbaabbabaababbabaabbaababbaabbabaab");
        Due.is("length(1)", x.length(1), 0);
        x = Due.withMorphism(3, "abc", "ac", "b");
        Due.is("iterate(0, 0)", x.iterate(0, 0), 40);
        Due.textIs(x, 0, "abcacbabcbacabcacbacabcbabcacbabcbacabcb");
        x = Due.withMorphism(2, "ab", "b");
        Due.is("a word that grows by one letter", x.iterate(0, 0), 40);
        Due.textIs(x, 0, "abbbbbbbbbbbbbbbbbbbbbbbbbbbbbbbbbbbbbbb");
        x = Due.withMorphism(4, "aaaa", "b", "c", "d");
        Due.is("a word of one letter", x.iterate(0, 0), 40);
        Due.textIs(x, 0, "aaaaaaaaaaaaaaaaaaaaaaaaaaaaaaaaaaaaaaaa");
        x = Due.withMorphism(3, "abc", "bca", "c");
        Due.is("the last image is cut", x.iterate(0, 0), 40);
        Due.textIs(x, 0, "abcbcacbcacabccbcacabccabcbcaccbcacabcca");
    }

    private static void errorsOfIterate() {
        AbelianPowers x = Due.withMorphism(3, "ab", "ba");
        Due.word(x, 0, "abc");
        Due.is("iterate(3, 0)", x.iterate(3, 0), -1);
        Due.is("iterate(-1, 0)", x.iterate(-1, 0), -1);
        Due.is("iterate(0, 3)", x.iterate(0, 3), -1);
        Due.is("iterate(0, -1)", x.iterate(0, -1), -1);
        Due.is("an image is missing, though none is needed", x.iterate(0, 0), -6);
        Due.is("a missing image goes before one that does not begin with its letter", x.iterate(0, 2), -6);
        Due.image(x, "c:c");
        Due.is("the image has one letter only", x.iterate(0, 2), -7);
        Due.image(x, "c:acc");
        Due.is("the image does not begin with the letter", x.iterate(0, 2), -7);
        Due.textIs(x, 0, "abc");
        Due.is("iterate(0, 1)", x.iterate(0, 1), 40);
    }

    /** Promise 24. */
    private static void determinants() {
        Due.is("no images", Due.withMorphism(3).determinant(), Long.MIN_VALUE);
        Due.is("an image is missing", Due.withMorphism(3, "a", "b").determinant(), Long.MIN_VALUE);
        Due.is("the image of the first letter is missing", missingFirst(), Long.MIN_VALUE);
        Due.is("two letters", Due.withMorphism(2, "ab", "aab").determinant(), -1);
        Due.is("two letters, singular", Due.withMorphism(2, "ab", "ba").determinant(), 0);
        Due.is("two letters exchanged", Due.withMorphism(2, "b", "a").determinant(), -1);
        Due.is("three letters", Due.withMorphism(3, "aa", "bb", "cc").determinant(), 8);
        Due.is("three letters turned", Due.withMorphism(3, "b", "c", "a").determinant(), 1);
        Due.is("three letters, two exchanged", Due.withMorphism(3, "a", "c", "b").determinant(), -1);
        // Columns (1 2 1), (2 0 1), (0 1 2): 1 (0 2 - 1 1) - 2 (2 2 - 1 1) + 0 = -7.
        Due.is("three letters mixed", Due.withMorphism(3, "abbc", "aac", "bcc").determinant(), -7);
        Due.is("four letters", Due.withMorphism(4, "aaaa", "bbbb", "cccc", "dddd").determinant(), 256);
        Due.is("four letters turned", Due.withMorphism(4, "b", "c", "d", "a").determinant(), -1);
        // Columns (1 1 1 0), (0 1 1 1), (1 0 1 1), (1 1 0 1): all ones minus a permutation.
        Due.is("four letters, three each", Due.withMorphism(4, "abc", "bcd", "cda", "dab").determinant(), 3);
        Due.is("four letters, singular", Due.withMorphism(4, "ab", "bc", "cd", "da").determinant(), 0);
        Due.is("columns go by letters, not rows", Due.withMorphism(2, "aab", "bbb").determinant(), 6);
    }

    private static long missingFirst() {
        AbelianPowers x = Due.withMorphism(2);
        Due.image(x, "b:ba");
        return x.determinant();
    }
}
