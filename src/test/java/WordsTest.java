/** Promises 6 to 15: word registers, blocks and powers. */
public final class WordsTest {
    private static final int[] NO_WORDS = {-1, 3, Integer.MIN_VALUE, Integer.MAX_VALUE};

    public static void main(String[] args) {
        wordsGrowAndEmpty();
        lettersOfWords();
        wrongRegisters();
        occurrencesInBlocks();
        equivalentByKind();
        equivalentBlocksMustBeInside();
        firstPowerIsTheOneThatEndsFirst();
        powersOfHigherExponents();
        powersByKind();
        prefixesThatAreFree();
        extensionsOfWords();
        extensionsOfAFullWord();
        askingChangesNothing();
        Due.end();
    }

    /** Promises 6, 7 and 8. */
    private static void wordsGrowAndEmpty() {
        AbelianPowers x = new AbelianPowers();
        for (int i = 1; i <= 40; i++) {
            Due.is("append(1, 2) number " + i, x.append(1, 2), i);
        }
        Due.is("append to a full word", x.append(1, 0), -3);
        Due.is("a wrong letter goes before a full word", x.append(1, 3), -1);
        Due.is("length(1)", x.length(1), 40);
        Due.is("length(0)", x.length(0), 0);
        Due.is("length(2)", x.length(2), 0);
        Due.is("the last letter", x.letter(1, 39), 2);
        Due.is("append(0, 3)", x.append(0, 3), -1);
        Due.is("append(0, -1)", x.append(0, -1), -1);
        Due.is("length after wrong letters", x.length(0), 0);
        Due.is("clearWord(1)", x.clearWord(1), 40);
        Due.is("clearWord(1) again", x.clearWord(1), 0);
        Due.is("append to an emptied word", x.append(1, 1), 1);
        Due.is("its letter", x.letter(1, 0), 1);
        Due.problem(x, "abelian 2 4");
        Due.is("append(2, 3)", x.append(2, 3), 1);
        Due.is("append(2, 4)", x.append(2, 4), -1);
        Due.problem(x, "abelian 2 2");
        Due.is("append(2, 2)", x.append(2, 2), -1);
    }

    /** Promise 9. */
    private static void lettersOfWords() {
        AbelianPowers x = new AbelianPowers();
        Due.word(x, 0, "cab");
        Due.is("letter(0, 0)", x.letter(0, 0), 2);
        Due.is("letter(0, 1)", x.letter(0, 1), 0);
        Due.is("letter(0, 2)", x.letter(0, 2), 1);
        Due.is("letter(0, 3)", x.letter(0, 3), -2);
        Due.is("letter(0, -1)", x.letter(0, -1), -2);
        Due.is("letter(0, 40)", x.letter(0, 40), -2);
        Due.is("letter(0, MAX)", x.letter(0, Integer.MAX_VALUE), -2);
        Due.is("letter(3, -1)", x.letter(3, -1), -1);
        x.clearWord(0);
        Due.is("letter of an emptied word", x.letter(0, 0), -2);
    }

    private static void wrongRegisters() {
        AbelianPowers x = new AbelianPowers();
        for (int w : NO_WORDS) {
            Due.is("append", x.append(w, 0), -1);
            Due.is("clearWord", x.clearWord(w), -1);
            Due.is("length", x.length(w), -1);
            Due.is("letter", x.letter(w, 0), -1);
            Due.is("occurrences", x.occurrences(w, 0, 0, 0), -1);
            Due.is("equivalent", x.equivalent(w, 0, 0, 0), -1);
            Due.is("firstPower", x.firstPower(w), -1);
            Due.is("powerCount", x.powerCount(w), -1);
            Due.is("freePrefix", x.freePrefix(w), -1);
            Due.is("extensions", x.extensions(w), -1);
        }
    }

    /** Promise 10. */
    private static void occurrencesInBlocks() {
        AbelianPowers x = new AbelianPowers();
        Due.word(x, 0, "abcabca");
        Due.is("occurrences(0, 0, 7, 0)", x.occurrences(0, 0, 7, 0), 3);
        Due.is("occurrences(0, 1, 5, 0)", x.occurrences(0, 1, 5, 0), 1);
        Due.is("occurrences(0, 1, 6, 0)", x.occurrences(0, 1, 6, 0), 2);
        Due.is("occurrences(0, 2, 4, 2)", x.occurrences(0, 2, 4, 2), 2);
        Due.is("occurrences(0, 7, 0, 1)", x.occurrences(0, 7, 0, 1), 0);
        Due.is("occurrences(0, 6, 1, 1)", x.occurrences(0, 6, 1, 1), 0);
        Due.is("occurrences(0, 0, 8, 0)", x.occurrences(0, 0, 8, 0), -1);
        Due.is("occurrences(0, 8, 0, 0)", x.occurrences(0, 8, 0, 0), -1);
        Due.is("occurrences(0, 7, 1, 0)", x.occurrences(0, 7, 1, 0), -1);
        Due.is("occurrences(0, -1, 2, 0)", x.occurrences(0, -1, 2, 0), -1);
        Due.is("occurrences(0, 2, -1, 0)", x.occurrences(0, 2, -1, 0), -1);
        Due.is("occurrences(0, 2, MAX, 0)", x.occurrences(0, 2, Integer.MAX_VALUE, 0), -1);
        Due.is("occurrences(0, MAX, MAX, 0)", x.occurrences(0, Integer.MAX_VALUE, Integer.MAX_VALUE, 0), -1);
        Due.is("occurrences(0, MIN, MAX, 0)", x.occurrences(0, Integer.MIN_VALUE, Integer.MAX_VALUE, 0), -1);
        Due.is("occurrences(0, 0, 2, 3)", x.occurrences(0, 0, 2, 3), -1);
        Due.is("occurrences(0, 0, 2, -1)", x.occurrences(0, 0, 2, -1), -1);
        Due.is("occurrences in an empty word", x.occurrences(1, 0, 0, 0), 0);
    }

    private static int equivalent(String problem, String blocks) {
        AbelianPowers x = new AbelianPowers();
        Due.problem(x, problem);
        Due.word(x, 0, blocks);
        return x.equivalent(0, 0, blocks.length() / 2, blocks.length() / 2);
    }

    /** Promise 11. */
    private static void equivalentByKind() {
        Due.is("equal ab ab", equivalent("equal 2 3", "abab"), 1);
        Due.is("equal ab ba", equivalent("equal 2 3", "abba"), 0);
        Due.is("equal aab aac", equivalent("equal 2 3", "aabaac"), 0);
        Due.is("abelian ab ba", equivalent("abelian 2 3", "abba"), 1);
        Due.is("abelian aab abb", equivalent("abelian 2 3", "aababb"), 0);
        Due.is("abelian dcba abcd", equivalent("abelian 2 4", "dcbaabcd"), 1);
        Due.is("abelian ddda dddc", equivalent("abelian 2 4", "dddadddc"), 0);
        Due.is("additive bb ac", equivalent("additive 2 3", "bbac"), 1);
        Due.is("additive ab ac", equivalent("additive 2 3", "abac"), 0);
        Due.is("additive ad bc", equivalent("additive 2 4", "adbc"), 1);
        Due.is("mixed abcab abcab", equivalent("mixed 2 3", "abcababcab"), 1);
        Due.is("mixed ab ba: another first letter", equivalent("mixed 2 3", "abba"), 0);
        Due.is("mixed aab aba: other pairs", equivalent("mixed 2 3", "aababa"), 0);
        Due.is("mixed abaacab acabaab", equivalent("mixed 2 3", "abaacabacabaab"), 1);
        Due.is("mixed ababba abbaba", equivalent("mixed 2 2", "ababbaabbaba"), 1);
        Due.is("mixed abacada adacaba", equivalent("mixed 2 4", "abacadaadacaba"), 1);
        Due.is("mixed cdcacbc cacbcdc", equivalent("mixed 2 4", "cdcacbccacbcdc"), 1);
        Due.is("mixed dcdcad dcdadc: ca and da differ", equivalent("mixed 2 4", "dcdcaddcdadc"), 0);
        Due.is("mixed bcb bbc", equivalent("mixed 2 3", "bcbbbc"), 0);
        Due.is("mixed aabb abab", equivalent("mixed 2 2", "aabbabab"), 0);
        AbelianPowers x = new AbelianPowers();
        Due.problem(x, "additive 2 3");
        x.setValue(0, -9);
        x.setValue(1, 9);
        x.setValue(2, 0);
        Due.word(x, 1, "abcc");
        Due.is("additive with values -9 + 9 and 0 + 0", x.equivalent(1, 0, 2, 2), 1);
        x.setValue(2, 1);
        Due.is("additive with values -9 + 9 and 1 + 1", x.equivalent(1, 0, 2, 2), 0);
    }

    private static void equivalentBlocksMustBeInside() {
        AbelianPowers x = new AbelianPowers();
        String[] problems = {"equal 2 3", "abelian 2 3", "additive 2 3", "mixed 2 3"};
        for (String problem : problems) {
            Due.problem(x, problem);
            Due.word(x, 0, "abcabc");
            Due.is("overlapping blocks", x.equivalent(0, 1, 2, 3), problem.startsWith("ab") || problem.startsWith("ad") ? 1 : 0);
            Due.is("a block and itself", x.equivalent(0, 2, 2, 4), 1);
            Due.is("blocks of length 0", x.equivalent(0, 1, 3, 0), 1);
            Due.is("blocks of length 0 at the end", x.equivalent(0, 6, 6, 0), 1);
            Due.is("start behind the end", x.equivalent(0, 7, 0, 0), -1);
            Due.is("other behind the end", x.equivalent(0, 0, 7, 0), -1);
            Due.is("size 4 at 3", x.equivalent(0, 3, 0, 4), -1);
            Due.is("size 4 at other 3", x.equivalent(0, 0, 3, 4), -1);
            Due.is("size -1", x.equivalent(0, 0, 1, -1), -1);
            Due.is("start -1", x.equivalent(0, -1, 1, 1), -1);
            Due.is("other -1", x.equivalent(0, 1, -1, 1), -1);
            Due.is("size MAX", x.equivalent(0, 1, 1, Integer.MAX_VALUE), -1);
            Due.is("start MAX", x.equivalent(0, Integer.MAX_VALUE, 1, 1), -1);
        }
        for (int i = 0; i < 40; i++) {
            x.append(2, i % 2);
        }
        Due.is("the whole of a full word", x.equivalent(2, 0, 0, 40), 1);
        Due.is("its halves", x.equivalent(2, 0, 20, 20), 1);
        Due.is("mixed: shifted by one", x.equivalent(2, 0, 1, 39), 0);
    }

    /** Promises 12 and 13. */
    private static void firstPowerIsTheOneThatEndsFirst() {
        AbelianPowers x = new AbelianPowers();
        Due.is("an empty word", x.firstPower(0), -2);
        Due.is("powers of an empty word", x.powerCount(0), 0);
        Due.word(x, 0, "abacaba");
        Due.is("a free word", x.firstPower(0), -2);
        Due.is("powers of a free word", x.powerCount(0), 0);
        Due.word(x, 0, "abcbaabb");
        // aa ends at 6, before bb and all longer powers.
        Due.is("firstPower of abcbaabb", x.firstPower(0), 401);
        Due.word(x, 0, "abcabcc");
        Due.is("abcabc ends before cc", x.firstPower(0), 3);
        Due.word(x, 0, "aaaa");
        Due.is("the smallest blocks among those with the same end", x.firstPower(0), 1);
        Due.is("powers of aaaa: three of length 1 and one of length 2", x.powerCount(0), 4);
        Due.word(x, 0, "bacaabbaa");
        // aa ends at 5, before bb, abba and the others.
        Due.is("firstPower of bacaabbaa", x.firstPower(0), 301);
        Due.word(x, 0, "cabbba");
        // bb ends at 4 and at 5.
        Due.is("firstPower of cabbba", x.firstPower(0), 201);
        Due.is("powers of cabbba: bb twice", x.powerCount(0), 2);
        Due.word(x, 0, "abccba");
        Due.is("powers of abccba: cc, bccb, abccba", x.powerCount(0), 3);
        Due.word(x, 0, "bcabac");
        Due.is("powers of bcabac: bcabac", x.powerCount(0), 1);
        Due.is("firstPower of bcabac", x.firstPower(0), 3);
    }

    private static void powersOfHigherExponents() {
        AbelianPowers x = new AbelianPowers();
        Due.problem(x, "abelian 3 3");
        Due.word(x, 0, "cabbaab");
        Due.is("abelian cube ab ba ab", x.firstPower(0), 102);
        Due.is("its number", x.powerCount(0), 1);
        Due.is("the free prefix", x.freePrefix(0), 6);
        Due.word(x, 0, "abbacc");
        Due.is("squares are no cubes", x.firstPower(0), -2);
        Due.word(x, 0, "abbaac");
        Due.is("the third block must be like the first", x.firstPower(0), -2);
        Due.problem(x, "abelian 4 3");
        Due.word(x, 0, "aaab");
        Due.is("aaa is no fourth power", x.firstPower(0), -2);
        Due.word(x, 0, "baaaa");
        Due.is("aaaa is one", x.firstPower(0), 101);
        Due.is("its number", x.powerCount(0), 1);
        Due.word(x, 1, "");
        for (int i = 0; i < 40; i++) {
            x.append(1, 0);
        }
        // For the length n of blocks there are 40 - 4n + 1 places: 37 + 33 + .. + 1.
        Due.is("powers of a^40", x.powerCount(1), 190);
        Due.problem(x, "equal 2 3");
        // 39 + 37 + .. + 1.
        Due.is("squares of a^40", x.powerCount(1), 400);
        Due.problem(x, "equal 3 3");
        // 38 + 35 + .. + 2.
        Due.is("cubes of a^40", x.powerCount(1), 260);
    }

    private static void powersByKind() {
        AbelianPowers x = new AbelianPowers();
        Due.word(x, 0, "bacab");
        Due.is("abelian", x.firstPower(0), -2);
        Due.word(x, 0, "abba");
        Due.is("abelian abba", x.powerCount(0), 2);
        Due.problem(x, "equal 2 3");
        Due.is("equal abba", x.powerCount(0), 1);
        Due.is("equal abba, the first", x.firstPower(0), 101);
        Due.problem(x, "mixed 2 3");
        Due.is("mixed abba", x.powerCount(0), 1);
        Due.problem(x, "additive 2 3");
        Due.word(x, 0, "bbac");
        Due.is("additive bbac: bb and bb ac", x.powerCount(0), 2);
        Due.word(x, 0, "cabb");
        Due.is("additive cabb: bb and ca bb", x.powerCount(0), 2);
        Due.word(x, 0, "acbb");
        Due.is("additive acbb ends with both: the smaller blocks", x.firstPower(0), 201);
        x.setValue(0, 0);
        x.setValue(1, 0);
        Due.word(x, 0, "ab");
        Due.is("additive with equal values", x.firstPower(0), 1);
        Due.problem(x, "mixed 2 2");
        Due.word(x, 0, "ababbaabbaba");
        Due.is("equal blocks end first in ababba abbaba", x.firstPower(0), 2);
    }

    /** Promise 14. */
    private static void prefixesThatAreFree() {
        AbelianPowers x = new AbelianPowers();
        Due.is("of an empty word", x.freePrefix(0), 0);
        Due.word(x, 0, "abacaba");
        Due.is("of a free word", x.freePrefix(0), 7);
        Due.word(x, 0, "abacabaa");
        Due.is("of abacabaa", x.freePrefix(0), 7);
        Due.word(x, 0, "aabc");
        Due.is("of aabc", x.freePrefix(0), 1);
        Due.word(x, 0, "abcacbb");
        Due.is("of abcacbb", x.freePrefix(0), 5);
    }

    /** Promise 15. */
    private static void extensionsOfWords() {
        AbelianPowers x = new AbelianPowers();
        Due.is("of the empty word", x.extensions(0), 7);
        Due.word(x, 0, "a");
        Due.is("of a", x.extensions(0), 6);
        Due.word(x, 0, "ab");
        Due.is("of ab", x.extensions(0), 5);
        Due.word(x, 0, "aba");
        Due.is("of aba", x.extensions(0), 4);
        Due.word(x, 0, "abacaba");
        Due.is("of a word that ends", x.extensions(0), 0);
        Due.textIs(x, 0, "abacaba");
        Due.word(x, 0, "aa");
        Due.is("of aa", x.extensions(0), -5);
        Due.word(x, 0, "aab");
        Due.is("of aab", x.extensions(0), -5);
        Due.problem(x, "abelian 3 2");
        Due.word(x, 0, "aa");
        Due.is("cubes: of aa", x.extensions(0), 2);
        Due.problem(x, "equal 2 4");
        Due.word(x, 0, "abca");
        Due.is("squares of four letters: of abca", x.extensions(0), 14);
    }

    private static void extensionsOfAFullWord() {
        AbelianPowers x = new AbelianPowers();
        Due.problem(x, "equal 4 2");
        for (int i = 0; i < 37; i++) {
            x.append(0, Integer.bitCount(i) % 2);
        }
        for (int i = 0; i < 3; i++) {
            x.append(0, 0);
        }
        // The word of Thue and Morse, which has no cubes, has a at position 36: a^4 stands at the end.
        Due.is("a^4 at the end", x.extensions(0), -5);
        x.clearWord(0);
        for (int i = 0; i < 40; i++) {
            x.append(0, Integer.bitCount(i) % 2);
        }
        Due.is("the limit of 40 letters does not matter", x.extensions(0), 3);
        Due.is("length", x.length(0), 40);
        x.clearWord(0);
        for (int i = 0; i < 40; i++) {
            x.append(0, i < 37 ? Integer.bitCount(i) % 2 ^ 1 : 0);
        }
        // With a and b exchanged position 36 holds b: the word ends with b a a a.
        Due.is("a fourth a would make a power", x.extensions(0), 2);
    }

    private static void askingChangesNothing() {
        AbelianPowers x = new AbelianPowers();
        Due.word(x, 0, "abcab");
        Due.word(x, 1, "ab");
        Due.word(x, 2, "aabb");
        for (int w = 0; w < 3; w++) {
            x.firstPower(w);
            x.powerCount(w);
            x.freePrefix(w);
            x.extensions(w);
            x.equivalent(w, 0, 1, 1);
            x.occurrences(w, 0, 1, 0);
        }
        Due.textIs(x, 0, "abcab");
        Due.textIs(x, 1, "ab");
        Due.textIs(x, 2, "aabb");
    }
}
