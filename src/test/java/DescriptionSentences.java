import java.util.ArrayList;
import java.util.Arrays;
import java.util.HashSet;
import java.util.List;
import java.util.Set;

/** The paragraphs of the document's description that bind all promises, sentence by sentence. */
final class DescriptionSentences {
    private static final String[] KINDS = {"equal", "abelian", "additive", "mixed"};

    private DescriptionSentences() {
    }

    static void ask() {
        numbersOfLetters();
        threeRegisters();
        valuesOfLetters();
        blocksOfWords();
        blocksByKind();
        equalBlocks();
        abelianBlocks();
        additiveBlocks();
        mixedBlocks();
        emptyBlocks();
        exponents();
        problemAtFirst();
        blocksOfPowers();
        placesOfPowers();
        freeWords();
        lettersOfImages();
        imagesOfWords();
        missingImages();
        matrixOfTheMorphism();
        partsOfTemplates();
        blocksOfOccurrences();
        squareTemplate();
        parentsOfTemplates();
        numbersOfTemplates();
        orderOfTemplates();
        ErrorSentences.ask();
    }

    private static AbelianPowers with(String problem, String word) {
        AbelianPowers x = Due.withProblem(problem);
        Due.word(x, 0, word);
        return x;
    }

    // ---- words

    private static void numbersOfLetters() {
        Doc.says("Words", "The alphabet has k letters, 2 to 4, which are numbered from 0 and written a, b, c, d.");
        AbelianPowers x = new AbelianPowers();
        Due.is("one letter", Due.problem(x, "abelian 2 1"), -110);
        Due.is("five letters", Due.problem(x, "abelian 2 5"), -110);
        for (int k = 2; k <= 4; k++) {
            Due.is("parseProblem", Due.problem(x, "abelian 2 " + k), 2);
            for (int letter = -1; letter <= 5; letter++) {
                boolean isLetter = letter >= 0 && letter < k;
                x.clearWord(0);
                Due.is("append(0, " + letter + ")", x.append(0, letter), isLetter ? 1 : -1);
                Due.is("the image a:" + (char) ('a' + letter), Due.image(x, "a:" + (char) ('a' + letter)), isLetter ? 0 : -102);
            }
        }
    }

    private static void threeRegisters() {
        Doc.says("Words", "There are three word registers, numbered 0 to 2, each of which holds a word of at most 40 letters and "
            + "is empty at first.");
        AbelianPowers x = new AbelianPowers();
        Due.all("length of no register", -1, x::length, Due.outside(0, 2));
        for (int w = 0; w < 3; w++) {
            Due.is("length at first", x.length(w), 0);
            for (int n = 1; n <= 40; n++) {
                Due.is("append", x.append(w, w), n);
            }
            Due.is("the 41st letter", x.append(w, w), -3);
        }
        Due.all("length", 40, x::length, 0, 1, 2);
    }

    private static void valuesOfLetters() {
        Doc.says("Words", "Each letter has a value from -9 to 9", "at first the value of letter i is i.");
        for (int k = 2; k <= 4; k++) {
            AbelianPowers x = Due.withProblem("additive 2 " + k);
            for (int letter = 0; letter < k; letter++) {
                Due.is("the value at first plus 10", x.setValue(letter, -9), 10 + letter);
                Due.is("the smallest value plus 10", x.setValue(letter, 9), 1);
                Due.is("the greatest value plus 10", x.setValue(letter, 9), 19);
                Due.is("a smaller value", x.setValue(letter, -10), -1);
                Due.is("a greater value", x.setValue(letter, 10), -1);
            }
        }
        AbelianPowers x = with("additive 2 4", "dcba");
        x.newArray(0, 5);
        x.prefixSums(0, 0);
        Due.elementsAre(x, 0, 0, 3, 5, 6, 6);
    }

    private static void blocksOfWords() {
        Doc.says("Words", "A block of a word is given by the position of its first letter, from 0, and its length.");
        AbelianPowers x = with("abelian 2 3", "abc");
        Due.is("a in the first letter", x.occurrences(0, 0, 1, 0), 1);
        Due.is("b in the second letter", x.occurrences(0, 1, 1, 1), 1);
        Due.is("c in the last letter", x.occurrences(0, 2, 1, 2), 1);
        Due.is("before the first letter", x.occurrences(0, -1, 1, 0), -1);
        Due.is("behind the last letter", x.occurrences(0, 3, 1, 0), -1);
        Due.is("an empty block behind the last letter", x.occurrences(0, 3, 0, 0), 0);
    }

    // ---- kinds

    /** The answers for the two halves of a word, for equal, abelian, additive and mixed. */
    private static void halves(String word, int... due) {
        int half = word.length() / 2;
        for (int kind = 0; kind < 4; kind++) {
            AbelianPowers x = with(KINDS[kind] + " 2 4", word);
            Due.is(KINDS[kind] + " " + word, x.equivalent(0, 0, half, half), due[kind]);
            Due.is(KINDS[kind] + " " + word + ", the other way", x.equivalent(0, half, 0, half), due[kind]);
        }
    }

    private static void blocksByKind() {
        Doc.says("Kinds", "Two blocks of the same length are equivalent depending on the kind.");
        halves("abacabac", 1, 1, 1, 1);
        halves("abacaacaba", 0, 1, 1, 1);
        halves("abacacab", 0, 1, 1, 0);
        halves("adbc", 0, 0, 1, 0);
        halves("abcd", 0, 0, 0, 0);
        for (String word : wordsOfSixLetters()) {
            for (String kind : KINDS) {
                NaivePowers naive = new NaivePowers();
                (kind + " 2 4").chars().forEach(naive::feed);
                naive.parseProblem();
                word.chars().forEach(c -> naive.append(0, c - 'a'));
                Due.is(kind + " " + word, with(kind + " 2 4", word).equivalent(0, 0, 3, 3), naive.equivalent(0, 0, 3, 3));
            }
        }
    }

    private static List<String> wordsOfSixLetters() {
        List<String> words = List.of("");
        for (int i = 0; i < 6; i++) {
            List<String> longer = new ArrayList<>();
            for (String word : words) {
                for (char c = 'a'; c <= 'd'; c++) {
                    longer.add(word + c);
                }
            }
            words = longer;
        }
        return words;
    }

    private static void equalBlocks() {
        Doc.says("Kinds", "Equal: they have the same letters in the same order.");
        AbelianPowers x = with("equal 2 4", "a".repeat(19) + "b" + "a".repeat(20));
        Due.is("the last letter differs", x.equivalent(0, 0, 20, 20), 0);
        Due.is("without the last letter", x.equivalent(0, 0, 20, 19), 1);
        Due.is("the first letter differs", x.equivalent(0, 19, 20, 20), 0);
        Due.is("the same letters in another order", with("equal 2 4", "abba").equivalent(0, 0, 2, 2), 0);
    }

    private static void abelianBlocks() {
        Doc.says("Kinds", "Abelian: every letter occurs in both equally often.");
        for (int letter = 0; letter < 4; letter++) {
            String one = "abcd".substring(letter, letter + 1);
            String other = "bcda".substring(letter, letter + 1);
            AbelianPowers x = with("abelian 2 4", one.repeat(20) + other + one.repeat(19));
            Due.is("one letter of 20 differs", x.equivalent(0, 0, 20, 20), 0);
            x = with("abelian 2 4", other + one.repeat(19) + one.repeat(19) + other);
            Due.is("the order does not matter", x.equivalent(0, 0, 20, 20), 1);
        }
        Due.is("dcba and abcd", with("abelian 2 4", "dcbaabcd").equivalent(0, 0, 4, 4), 1);
    }

    private static void additiveBlocks() {
        Doc.says("Kinds", "Additive: the sums of the values of their letters are the same.");
        AbelianPowers x = with("additive 2 4", "a".repeat(20) + "b".repeat(19) + "c");
        setValues(x, 9, 9, 9);
        Due.is("20 letters of the greatest value", x.equivalent(0, 0, 20, 20), 1);
        setValues(x, 9, 9, 8);
        Due.is("one of them smaller", x.equivalent(0, 0, 20, 20), 0);
        setValues(x, -9, -9, -9);
        Due.is("20 letters of the smallest value", x.equivalent(0, 0, 20, 20), 1);
        setValues(x, -9, -9, 9);
        Due.is("one of them the greatest", x.equivalent(0, 0, 20, 20), 0);
        x = with("additive 2 4", "abcc");
        setValues(x, -9, 9, 0);
        Due.is("-9 + 9 and 0 + 0", x.equivalent(0, 0, 2, 2), 1);
    }

    private static void setValues(AbelianPowers x, int... values) {
        for (int i = 0; i < values.length; i++) {
            x.setValue(i, values[i]);
        }
    }

    /** That the first letter is the same follows from the rest, so that no blocks differ in it alone. */
    private static void mixedBlocks() {
        Doc.says("Kinds", "Mixed: they are equivalent for the kind abelian, they have the same first letter, and for all letters "
            + "x and y, x is directly followed by y within both blocks equally often.");
        Due.is("ab and ba", with("mixed 2 4", "abba").equivalent(0, 0, 2, 2), 0);
        Due.is("aab and aba: aa", with("mixed 2 4", "aababa").equivalent(0, 0, 3, 3), 0);
        Due.is("abab and baba: ab twice, then once", with("mixed 2 4", "ababbaba").equivalent(0, 0, 4, 4), 0);
        Due.is("abacab and acabab: other orders of ab, ac", with("mixed 2 4", "abacabacabab").equivalent(0, 0, 6, 6), 1);
        Due.is("dcdbd and dbdcd", with("mixed 2 4", "dcdbddbdcd").equivalent(0, 0, 5, 5), 1);
        // aa twice, ab and bb, or ab and ba twice: were pairs counted together, 2 + 2 + 32 would be 4 + 32.
        Due.is("aaabb and ababa", with("mixed 2 4", "aaabbababa").equivalent(0, 0, 5, 5), 0);
        Due.is("cccdd and cdcdc", with("mixed 2 4", "cccddcdcdc").equivalent(0, 0, 5, 5), 0);
        Due.is("abca and acba: the pairs turned round", with("mixed 2 4", "abcaacba").equivalent(0, 0, 4, 4), 0);
        // The pair that leads into a block, and the one that leads out of it, are not within it.
        Due.is("b in abc and cba", with("mixed 2 4", "abccba").equivalent(0, 1, 4, 1), 1);
        Due.is("bd in abda and cbdc", with("mixed 2 4", "abdacbdc").equivalent(0, 1, 5, 2), 1);
        Due.is("40 letters", with("mixed 2 4", "ab".repeat(20)).equivalent(0, 0, 20, 20), 1);
        Due.is("40 letters but one pair", with("mixed 2 4", "ab".repeat(19) + "ba").equivalent(0, 0, 20, 20), 0);
    }

    private static void emptyBlocks() {
        Doc.says("Kinds", "Blocks of length 0 are equivalent.");
        for (String kind : KINDS) {
            AbelianPowers x = with(kind + " 2 4", "abcd");
            for (int start = 0; start <= 4; start++) {
                for (int other = 0; other <= 4; other++) {
                    Due.is(kind + ", at " + start + " and " + other, x.equivalent(0, start, other, 0), 1);
                }
            }
            Due.is(kind + ", of an empty word", x.equivalent(1, 0, 0, 0), 1);
        }
    }

    // ---- powers

    private static void exponents() {
        Doc.says("Powers", "A problem consists of a kind, an exponent e from 2 to 4, and the number k of letters.");
        for (String kind : KINDS) {
            int at = kind.length() + 1;
            AbelianPowers x = new AbelianPowers();
            Due.is("exponent 1", Due.problem(x, kind + " 1 3"), -100 - at);
            Due.is("exponent 5", Due.problem(x, kind + " 5 3"), -100 - at);
            Due.is("letters 1", Due.problem(x, kind + " 2 1"), -102 - at);
            Due.is("letters 5", Due.problem(x, kind + " 2 5"), -102 - at);
            for (int e = 2; e <= 4; e++) {
                Due.is("exponent " + e, Due.problem(x, kind + " " + e + " 3"), e);
                Due.word(x, 0, "a".repeat(e));
                Due.is("a^e", x.firstPower(0), 1);
                Due.is("a^(e - 1) is free", x.freePrefix(0), e - 1);
            }
        }
    }

    private static void problemAtFirst() {
        Doc.says("Powers", "At first the kind is abelian, e is 2 and k is 3.");
        AbelianPowers x = new AbelianPowers();
        Due.is("the kind", x.problem(0), 1);
        Due.is("e", x.problem(1), 2);
        Due.is("k", x.problem(2), 3);
        Due.is("the kind shows: abba", powersOf(x, "abba"), 2);
        Due.is("e shows: aa", powersOf(x, "aa"), 1);
        Due.is("k shows: c", x.append(1, 2), 1);
        Due.is("k shows: d", x.append(1, 3), -1);
    }

    private static int powersOf(AbelianPowers x, String word) {
        Due.word(x, 0, word);
        return x.powerCount(0);
    }

    private static void blocksOfPowers() {
        Doc.says("Powers", "A power in a word consists of e consecutive blocks of the same length, at least 1, each of which is "
            + "equivalent to the first one.");
        // Blocks of length 0 would be a power in every word.
        Due.is("an empty word", with("equal 2 3", "").powerCount(0), 0);
        Due.is("one letter", with("equal 2 3", "a").powerCount(0), 0);
        Due.is("not consecutive: aba", with("equal 2 3", "aba").powerCount(0), 0);
        Due.is("ab, ba and ab", with("abelian 3 3", "abbaab").powerCount(0), 1);
        Due.is("the last block differs", with("abelian 3 3", "abbaac").powerCount(0), 0);
        Due.is("the middle block differs", with("abelian 3 3", "abacba").powerCount(0), 0);
        Due.is("the first block differs", with("abelian 3 3", "acabba").powerCount(0), 0);
        Due.is("four blocks", with("abelian 4 3", "abbaabba").powerCount(0), 1);
        Due.is("the last of four differs", with("abelian 4 3", "abbaabbc").powerCount(0), 0);
        Due.is("the third of four differs", with("abelian 4 3", "abbacbba").powerCount(0), 0);
        Due.is("c and bb have other lengths, so that bb is alone", with("additive 2 3", "cbb").powerCount(0), 1);
    }

    private static void placesOfPowers() {
        Doc.says("Powers", "It is given by the position of its first letter and the length of its blocks",
            "it ends at the position behind its last letter.");
        // Two powers of the same letters at other places are two, and two of other lengths at one place.
        Due.is("aa twice", with("equal 2 3", "aabaac").powerCount(0), 2);
        Due.is("aa at 0, 1 and 2, aaaa at 0", with("equal 2 3", "aaaa").powerCount(0), 4);
        // Both end at 4, which is behind their last letter, so that the length decides.
        Due.is("bb and ac bb", with("additive 2 3", "acbb").firstPower(0), 201);
        Due.is("cc ends at 3, before abcc", with("additive 2 3", "accb").firstPower(0), 101);
    }

    private static void freeWords() {
        Doc.says("Powers", "A word is free if it contains no power.");
        Due.is("the empty word is free", new AbelianPowers().countFree(0), 1);
        Due.is("no power", with("abelian 2 3", "abacaba").firstPower(0), -2);
        Due.is("a power in the middle", with("abelian 2 3", "abbc").firstPower(0), 101);
        Due.is("a power in the middle: extensions", with("abelian 2 3", "abbc").extensions(0), -5);
    }

    // ---- morphisms

    private static void lettersOfImages() {
        Doc.says("Morphisms", "A morphism assigns a word of 1 to 4 letters, its image, to every letter.");
        AbelianPowers x = Due.withProblem("abelian 2 4");
        for (int letter = 0; letter < 4; letter++) {
            String start = "abcd".charAt(letter) + ":";
            Due.is("no letters", Due.image(x, start), -102);
            Due.is("five letters", Due.image(x, start + "abcda"), -106);
            Due.is("it is missing", x.imageLength(letter), 0);
            Due.is("one letter", Due.image(x, start + "d"), letter);
            Due.is("its length", x.imageLength(letter), 1);
            Due.is("four letters", Due.image(x, start + "dcba"), letter);
            Due.is("its length", x.imageLength(letter), 4);
        }
    }

    private static void imagesOfWords() {
        Doc.says("Morphisms", "The image of a word is the concatenation of the images of its letters.");
        AbelianPowers x = Due.withMorphism(3, "bc", "a", "ccab");
        Due.word(x, 0, "abca");
        Due.is("apply(0)", x.apply(0), 9);
        Due.textIs(x, 0, "bcaccabbc");
        Due.is("the image of the empty word is empty", x.apply(1), 0);
    }

    private static void missingImages() {
        Doc.says("Morphisms", "An image can be missing, as all are at first.");
        for (int k = 2; k <= 4; k++) {
            AbelianPowers x = Due.withProblem("abelian 2 " + k);
            for (int letter = 0; letter < k; letter++) {
                Due.is("imageLength", x.imageLength(letter), 0);
                Due.word(x, 0, "abcd".substring(letter, letter + 1));
                Due.is("apply", x.apply(0), -6);
                Due.is("iterate", x.iterate(0, letter), -6);
            }
            Due.is("determinant", x.determinant(), Long.MIN_VALUE);
            Due.is("computeClosure", x.computeClosure(), -6);
        }
    }

    private static void matrixOfTheMorphism() {
        Doc.says("Morphisms", "The matrix of the morphism has in row i and column j the number of occurrences of letter i in the "
            + "image of letter j.");
        // The image aab of a and bbb of b: rows (2 0) and (1 3).
        Due.is("two letters", Due.withMorphism(2, "aab", "bbb").determinant(), 6);
        // Images abcc, bb and ac: rows (1 0 1), (1 2 0), (2 0 1).
        Due.is("three letters", Due.withMorphism(3, "abcc", "bb", "ac").determinant(), -2);
        Due.is("four times the letter", Due.withMorphism(2, "aaaa", "bbbb").determinant(), 16);
        // A determinant does not tell rows from columns; parentsOfTemplates does.
    }

    // ---- templates, parents, order

    private static void partsOfTemplates() {
        Doc.says("Templates", "A template consists of three ends, each of which is a letter or empty, and of a difference, a list "
            + "of k integers from -9 to 9, one for each letter.");
        boolean[] seen = new boolean[27];
        for (int[] template : TemplateSentences.closure("aa", "aab")) {
            for (int what = 0; what < 5; what++) {
                Due.that("an end from -1 to 1", what > 2 || template[what] >= -1 && template[what] <= 1);
                Due.that("a number from -9 to 9", what < 3 || template[what] >= -9 && template[what] <= 9);
            }
            seen[9 * template[0] + 3 * template[1] + template[2] + 13] = true;
        }
        for (boolean one : seen) {
            Due.that("all ends occur", one);
        }
    }

    private static void blocksOfOccurrences() {
        Doc.says("Templates", "Let a0, a1 and a2 be its ends.", "An occurrence of the template in a word is a block that is not "
            + "empty and is the concatenation a0 X1 a1 X2 a2, where X1 and X2 are words that may be empty, such that for every "
            + "letter the number of its occurrences in X2 minus that in X1 is the number of the difference for this letter.");
        AbelianPowers x = Due.withMorphism(2, "a", "b");
        x.computeClosure();
        Due.word(x, 0, "");
        Due.is("an empty block is none", x.occurrence(0, 0), -2);
        Due.word(x, 0, "ab");
        Due.is("nor is it in a word of letters", x.occurrence(0, 0), -2);
        Due.word(x, 0, "ba");
        Due.is("a X1 X2: both empty", x.occurrence(0, 25), 10000);
        Due.is("X1 X2 a: both empty", x.occurrence(0, 2), 10000);
        // The template 112: b X1 b X2 b, and X2 has two b more than X1.
        Due.word(x, 0, "babbabbb");
        Due.is("b, a, b, bab and b", x.occurrence(0, 112), 103);
        Due.word(x, 0, "bbbbb");
        Due.is("X1 is empty", x.occurrence(0, 112), 2);
        // The template 1: X1 X2 a, and X2 has one a less than X1.
        Due.word(x, 0, "baa");
        Due.is("X2 is empty", x.occurrence(0, 1), 10100);
    }

    private static void squareTemplate() {
        Doc.says("Templates", "The square template has three empty ends and the difference 0 for every letter.");
        for (String[] images : new String[][] {{"a", "b"}, {"aaa", "babb"}, {"abb", "aaab"}}) {
            Due.that("it is in the closure", Arrays.equals(TemplateSentences.closure(images).get(0), new int[] {-1, -1, -1, 0, 0}));
        }
    }

    private static void parentsOfTemplates() {
        Doc.says("Parents", "A template with the ends A0, A1, A2 and the difference D is a parent of a template with the ends a0, "
            + "a1, a2 and the difference d if there are words p0, s0, p1, s1, p2, s2 such that, for each i, the image of Ai is the "
            + "concatenation pi ai si (the image of the empty word is empty), and for every letter x the following holds: the sum "
            + "over all letters y of the matrix entry in row x and column y times the number of D for y, plus the occurrences of x "
            + "in s1 and in p2, minus the occurrences of x in s0 and in p1, is the number of d for x.",
            "The closure is the smallest set of templates that contains the square template and all parents of its members.");
        for (String[] images : new String[][] {{"a", "b"}, {"b", "aa"}, {"aaa", "babb"}, {"baab", "aa"}}) {
            Parents parents = new Parents(images);
            List<List<Integer>> known = new ArrayList<>(List.of(List.of(-1, -1, -1, 0, 0)));
            Set<List<Integer>> due = new HashSet<>(known);
            for (int i = 0; i < known.size(); i++) {
                for (List<Integer> parent : parents.of(known.get(i))) {
                    if (due.add(parent)) {
                        known.add(parent);
                    }
                }
            }
            Set<List<Integer>> got = new HashSet<>();
            for (int[] t : TemplateSentences.closure(images)) {
                got.add(List.of(t[0], t[1], t[2], t[3], t[4]));
            }
            Due.that("the closure of " + String.join(", ", images), got.equals(due));
        }
    }

    private static void numbersOfTemplates() {
        Doc.says("Parents", "Only templates whose numbers are from -9 to 9 count.");
        // Without the bound these closures would have no end, with it they have 434, 1091 and 1216 templates.
        Due.is("a, ab", Due.withMorphism(2, "a", "ab").computeClosure(), -4);
        Due.is("b, ab", Due.withMorphism(2, "b", "ab").computeClosure(), -4);
        Due.is("abb, aabb", Due.withMorphism(2, "abb", "aabb").computeClosure(), -4);
        // No closure of at most 200 templates has a number beyond 4, so that the bound itself shows nowhere.
        int greatest = 0;
        for (int[] t : TemplateSentences.closure("aa", "aab")) {
            greatest = Math.max(greatest, Math.max(Math.abs(t[3]), Math.abs(t[4])));
        }
        Due.is("the greatest number of aa, aab", greatest, 4);
    }

    private static void orderOfTemplates() {
        Doc.says("Order of templates", "Templates are ordered by their first end, then by the second, then by the third one, then "
            + "by the numbers of the difference for the letters 0, 1 and so on", "an empty end comes before all letters.");
        List<int[]> all = TemplateSentences.closure("a", "b");
        int[][] first = {{-1, -1, -1, 0, 0}, {-1, -1, 0, -1, 0}, {-1, -1, 0, 0, 0}, {-1, -1, 1, 0, -1}, {-1, -1, 1, 0, 0},
            {-1, 0, -1, -1, 0}, {-1, 0, -1, 1, 0}, {-1, 0, 0, -2, 0}};
        for (int i = 0; i < first.length; i++) {
            Due.that("template " + i, Arrays.equals(all.get(i), first[i]));
        }
        int[][] later = {{-1, 0, 1, -1, -1}, {-1, 0, 1, -1, 0}, {-1, 0, 1, 1, -1}, {-1, 0, 1, 1, 0}};
        for (int i = 0; i < later.length; i++) {
            Due.that("template " + (11 + i), Arrays.equals(all.get(11 + i), later[i]));
        }
        Due.is("the first with a as its first end", all.get(25)[0], 0);
        Due.is("the last without a first end", all.get(24)[0], -1);
    }
}
