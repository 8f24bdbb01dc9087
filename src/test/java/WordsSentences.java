/** Promises 6 to 15, sentence by sentence: word registers, blocks and powers. */
final class WordsSentences {
    private static final int MAX = Integer.MAX_VALUE;
    private static final int MIN = Integer.MIN_VALUE;
    /** Its only square is that of its 20 first letters: nothing shorter is repeated. */
    private static final String LONGEST_SQUARE = "abacabcacbacabacbabc".repeat(2);
    /** A free word for the problem equal 2 3. */
    private static final String SQUARE_FREE_39 = "abacabcacbabcabacabcacbacabacbabcabacab";

    private WordsSentences() {
    }

    static void ask() {
        appendPutsALetterBehind();
        registersOfAppend();
        lettersOfAppend();
        appendToTheLastPlace();
        clearWordEmpties();
        registersOfClearWord();
        lengthOfAWord();
        registersOfLength();
        letterOfAWord();
        registersOfLetter();
        positionsOfLetter();
        occurrencesOfALetter();
        registersOfOccurrences();
        lettersOfOccurrences();
        blocksOfOccurrences();
        equivalentBlocks();
        registersOfEquivalent();
        overlappingBlocks();
        blocksOfEquivalent();
        theSmallestEndGoesFirst();
        theSmallestBlocksGoFirst();
        firstPowerAsANumber();
        registersOfFirstPower();
        freeWordsHaveNoFirstPower();
        numberOfPowers();
        registersOfPowerCount();
        longestFreePrefix();
        registersOfFreePrefix();
        lettersThatKeepAWordFree();
        extensionsOfAFullWord();
        registersOfExtensions();
        extensionsOfAWordThatIsNotFree();
    }

    private static String a(int count) {
        return "a".repeat(count);
    }

    private static AbelianPowers with(String problem, String word) {
        AbelianPowers x = Due.withProblem(problem);
        Due.word(x, 0, word);
        return x;
    }

    // ---- promise 6

    private static void appendPutsALetterBehind() {
        Doc.says(6, "Appends a letter to a word.", "Returns the new length");
        AbelianPowers x = with("abelian 2 3", "ab");
        Due.word(x, 2, "b");
        Due.is("append(0, 2)", x.append(0, 2), 3);
        Due.textIs(x, 0, "abc");
        Due.textIs(x, 1, "");
        Due.textIs(x, 2, "b");
        Due.is("append to an empty word", x.append(1, 1), 1);
        Due.textIs(x, 1, "b");
    }

    private static void registersOfAppend() {
        Doc.says(6, "`word`: the word register, 0 to 2", "BAD_ARGUMENT");
        AbelianPowers x = new AbelianPowers();
        Due.all("append", -1, w -> x.append(w, 0), Due.outside(0, 2));
        Due.all("append", 1, w -> x.append(w, 0), 0, 1, 2);
    }

    private static void lettersOfAppend() {
        Doc.says(6, "`letter`: the letter", "BAD_ARGUMENT");
        for (int k = 2; k <= 4; k++) {
            AbelianPowers x = Due.withProblem("equal 2 " + k);
            Due.all("append of a letter that there is not", -1, letter -> x.append(1, letter), Due.outside(0, k - 1));
            Due.is("append(1, 0)", x.append(1, 0), 1);
            Due.is("append(1, k - 1)", x.append(1, k - 1), 2);
            Due.textIs(x, 1, "a" + (char) ('a' + k - 1));
        }
    }

    private static void appendToTheLastPlace() {
        Doc.says(6, "FULL if the word has 40 letters.");
        for (int w = 0; w < 3; w++) {
            AbelianPowers x = new AbelianPowers();
            Due.word(x, w, a(39));
            Due.is("the 40th letter", x.append(w, 2), 40);
            Due.is("the 41st letter", x.append(w, 1), -3);
            Due.is("the 41st letter again", x.append(w, 1), -3);
            Due.is("a wrong letter goes before", x.append(w, 3), -1);
            Due.is("a wrong letter goes before", x.append(w, -1), -1);
            Due.textIs(x, w, a(39) + "c");
            Due.is("another word has room", x.append((w + 1) % 3, 1), 1);
            x.clearWord(w);
            Due.is("the emptied word has room", x.append(w, 1), 1);
            Due.textIs(x, w, "b");
        }
    }

    // ---- promises 7 and 8

    private static void clearWordEmpties() {
        Doc.says(7, "Makes a word empty.", "Returns the previous length");
        AbelianPowers x = with("abelian 2 3", "abc");
        Due.word(x, 1, a(40));
        Due.is("clearWord of a full word", x.clearWord(1), 40);
        Due.is("clearWord of an empty word", x.clearWord(1), 0);
        Due.textIs(x, 1, "");
        Due.is("its letters are gone", x.letter(1, 0), -2);
        Due.textIs(x, 0, "abc");
        Due.is("clearWord(0)", x.clearWord(0), 3);
        Due.textIs(x, 0, "");
    }

    private static void registersOfClearWord() {
        Doc.says(7, "`word`: the word register", "BAD_ARGUMENT.");
        AbelianPowers x = new AbelianPowers();
        for (int w = 0; w < 3; w++) {
            Due.word(x, w, a(w + 1));
        }
        Due.all("clearWord", -1, x::clearWord, Due.outside(0, 2));
        for (int w = 0; w < 3; w++) {
            Due.is("clearWord(" + w + ")", x.clearWord(w), w + 1);
        }
    }

    private static void lengthOfAWord() {
        Doc.says(8, "Returns the length of a word.", "Returns the number of letters");
        AbelianPowers x = new AbelianPowers();
        Due.is("an empty word", x.length(2), 0);
        for (int n = 1; n <= 40; n++) {
            x.append(2, n % 3);
            Due.is("length", x.length(2), n);
        }
        x.append(2, 0);
        Due.is("a full word", x.length(2), 40);
    }

    private static void registersOfLength() {
        Doc.says(8, "`word`: the word register", "BAD_ARGUMENT.");
        AbelianPowers x = new AbelianPowers();
        Due.all("length", -1, x::length, Due.outside(0, 2));
        Due.all("length", 0, x::length, 0, 1, 2);
    }

    // ---- promise 9

    private static void letterOfAWord() {
        Doc.says(9, "Returns a letter of a word.", "Returns the letter");
        AbelianPowers x = with("abelian 2 4", "dacb");
        Due.is("letter(0, 0)", x.letter(0, 0), 3);
        Due.is("letter(0, 1)", x.letter(0, 1), 0);
        Due.is("letter(0, 2)", x.letter(0, 2), 2);
        Due.is("letter(0, 3)", x.letter(0, 3), 1);
    }

    private static void registersOfLetter() {
        Doc.says(9, "`word`: the word register", "BAD_ARGUMENT if there is no such register");
        AbelianPowers x = with("abelian 2 3", "ab");
        Due.all("letter", -1, w -> x.letter(w, 0), Due.outside(0, 2));
        Due.all("letter without register and position", -1, w -> x.letter(w, -1), Due.outside(0, 2));
    }

    private static void positionsOfLetter() {
        Doc.says(9, "`i`: the position, from 0", "NONE if there is no such position.");
        AbelianPowers x = with("abelian 2 3", "bc");
        Due.all("letter", -2, i -> x.letter(0, i), Due.outside(0, 1));
        Due.is("letter(0, 0)", x.letter(0, 0), 1);
        Due.is("letter(0, 1)", x.letter(0, 1), 2);
        Due.all("letter of an empty word", -2, i -> x.letter(1, i), -1, 0, 1, 39, 40, MIN, MAX);
        Due.word(x, 1, a(39) + "b");
        Due.is("the last letter of a full word", x.letter(1, 39), 1);
        Due.all("letter of a full word", -2, i -> x.letter(1, i), Due.outside(0, 39));
        x.clearWord(1);
        x.append(1, 2);
        Due.is("letters of an earlier word are gone", x.letter(1, 1), -2);
    }

    // ---- promise 10

    private static void occurrencesOfALetter() {
        Doc.says(10, "Returns how often a letter occurs in a block.", "Returns the number of occurrences");
        AbelianPowers x = with("abelian 2 4", "abacadab");
        Due.is("a in the whole word", x.occurrences(0, 0, 8, 0), 4);
        Due.is("a in bacada", x.occurrences(0, 1, 6, 0), 3);
        Due.is("a in bac", x.occurrences(0, 1, 3, 0), 1);
        Due.is("b in acada", x.occurrences(0, 2, 5, 1), 0);
        Due.is("b in acadab", x.occurrences(0, 2, 6, 1), 1);
        Due.is("d in d", x.occurrences(0, 5, 1, 3), 1);
        Due.word(x, 1, a(40));
        Due.is("a in a full word", x.occurrences(1, 0, 40, 0), 40);
        Due.is("b in a full word", x.occurrences(1, 0, 40, 1), 0);
    }

    private static void registersOfOccurrences() {
        Doc.says(10, "`word`: the word register", "BAD_ARGUMENT");
        AbelianPowers x = new AbelianPowers();
        Due.all("occurrences", -1, w -> x.occurrences(w, 0, 0, 0), Due.outside(0, 2));
        Due.all("occurrences", 0, w -> x.occurrences(w, 0, 0, 0), 0, 1, 2);
    }

    private static void lettersOfOccurrences() {
        Doc.says(10, "`letter`: the letter", "BAD_ARGUMENT");
        for (int k = 2; k <= 4; k++) {
            AbelianPowers x = with("abelian 2 " + k, "ab");
            Due.all("occurrences", -1, letter -> x.occurrences(0, 0, 2, letter), Due.outside(0, k - 1));
            Due.all("occurrences in an empty block", -1, letter -> x.occurrences(0, 0, 0, letter), Due.outside(0, k - 1));
            Due.is("occurrences of the first letter", x.occurrences(0, 0, 2, 0), 1);
            Due.is("occurrences of the last letter", x.occurrences(0, 0, 2, k - 1), k == 2 ? 1 : 0);
        }
    }

    private static void blocksOfOccurrences() {
        Doc.says(10, "`start`: the position of the block", "`size`: the length of the block, at least 0",
            "BAD_ARGUMENT, also if the block is not inside the word.");
        AbelianPowers x = with("abelian 2 3", a(5));
        for (int start = -2; start <= 7; start++) {
            for (int size = -2; size <= 7; size++) {
                boolean inside = start >= 0 && size >= 0 && start + size <= 5;
                Due.is("occurrences(0, " + start + ", " + size + ", 0)", x.occurrences(0, start, size, 0), inside ? size : -1);
            }
        }
        Due.is("an empty block behind the last letter", x.occurrences(0, 5, 0, 0), 0);
        Due.is("an empty block of an empty word", x.occurrences(1, 0, 0, 0), 0);
        Due.is("a block of an empty word", x.occurrences(1, 0, 1, 0), -1);
        Due.is("start 1 of an empty word", x.occurrences(1, 1, 0, 0), -1);
        Due.word(x, 2, a(40));
        Due.is("41 letters of a full word", x.occurrences(2, 0, 41, 0), -1);
        Due.is("start 41 of a full word", x.occurrences(2, 41, 0, 0), -1);
        Due.is("start 40 of a full word", x.occurrences(2, 40, 0, 0), 0);
        int[][] wrapping = {{1, MAX}, {MAX, 1}, {MAX, MAX}, {MIN, MIN}, {MIN, MAX}, {MAX, MIN}, {5, MAX}, {0, MIN}, {MIN, 0}};
        for (int[] block : wrapping) {
            Due.is("occurrences(0, " + block[0] + ", " + block[1] + ", 0)", x.occurrences(0, block[0], block[1], 0), -1);
        }
    }

    // ---- promise 11

    private static void equivalentBlocks() {
        Doc.says(11, "Returns whether two blocks of a word are equivalent.", "Returns 1 or 0");
        AbelianPowers x = with("abelian 2 3", "abcba");
        Due.is("ab and ba", x.equivalent(0, 0, 3, 2), 1);
        Due.is("ab and bc", x.equivalent(0, 0, 1, 2), 0);
        Due.is("a and the last a", x.equivalent(0, 0, 4, 1), 1);
        Due.is("c and a", x.equivalent(0, 2, 4, 1), 0);
    }

    private static void registersOfEquivalent() {
        Doc.says(11, "`word`: the word register", "BAD_ARGUMENT");
        AbelianPowers x = new AbelianPowers();
        Due.all("equivalent", -1, w -> x.equivalent(w, 0, 0, 0), Due.outside(0, 2));
        Due.all("equivalent", 1, w -> x.equivalent(w, 0, 0, 0), 0, 1, 2);
    }

    private static void overlappingBlocks() {
        Doc.says(11, "`start`: the position of the first block", "`other`: the position of the second block",
            "the blocks may overlap");
        AbelianPowers x = with("abelian 2 3", "abcab");
        Due.is("abc and bca", x.equivalent(0, 0, 1, 3), 1);
        Due.is("bca and abc", x.equivalent(0, 1, 0, 3), 1);
        Due.is("abca and bcab", x.equivalent(0, 0, 1, 4), 0);
        Due.is("a block and itself", x.equivalent(0, 0, 0, 5), 1);
        Due.problem(x, "equal 2 3");
        Due.word(x, 0, "aaaab");
        Due.is("aaa and aaa", x.equivalent(0, 0, 1, 3), 1);
        Due.is("aaa and aab", x.equivalent(0, 1, 2, 3), 0);
        Due.problem(x, "mixed 2 3");
        Due.is("mixed aaa and aaa", x.equivalent(0, 0, 1, 3), 1);
        Due.problem(x, "additive 2 3");
        Due.is("additive aaa and aab", x.equivalent(0, 1, 2, 3), 0);
    }

    private static void blocksOfEquivalent() {
        Doc.says(11, "`size`: the length of both blocks, at least 0", "BAD_ARGUMENT, also if a block is not inside the word.");
        for (String kind : new String[] {"equal", "abelian", "additive", "mixed"}) {
            AbelianPowers x = with(kind + " 2 3", a(4));
            for (int start = -1; start <= 5; start++) {
                for (int other = -1; other <= 5; other++) {
                    askSizes(x, start, other);
                }
            }
            x = with(kind + " 2 3", "");
            Due.is("empty blocks of an empty word", x.equivalent(0, 0, 0, 0), 1);
            Due.is("blocks of an empty word", x.equivalent(0, 0, 0, 1), -1);
            Due.is("behind an empty word", x.equivalent(0, 0, 1, 0), -1);
            Due.word(x, 1, a(40));
            Due.is("all of a full word", x.equivalent(1, 0, 0, 40), 1);
            Due.is("empty blocks behind a full word", x.equivalent(1, 40, 40, 0), 1);
            Due.is("41 letters of a full word", x.equivalent(1, 0, 0, 41), -1);
            int[][] wrapping = {{1, 0, MAX}, {0, 1, MAX}, {MAX, 0, 1}, {0, MAX, 1}, {MAX, MAX, MAX}, {MIN, 0, 0},
                {0, MIN, 0}, {0, 0, MIN}, {MIN, MIN, MIN}, {MIN, MIN, MAX}};
            for (int[] b : wrapping) {
                Due.is("equivalent(1, " + b[0] + ", " + b[1] + ", " + b[2] + ")", x.equivalent(1, b[0], b[1], b[2]), -1);
            }
        }
    }

    private static void askSizes(AbelianPowers x, int start, int other) {
        for (int size = -1; size <= 5; size++) {
            boolean inside = start >= 0 && other >= 0 && size >= 0 && Math.max(start, other) + size <= 4;
            Due.is("equivalent(0, " + start + ", " + other + ", " + size + ")", x.equivalent(0, start, other, size),
                inside ? 1 : -1);
        }
    }

    // ---- promise 12

    private static void theSmallestEndGoesFirst() {
        Doc.says(12, "Returns the first power in a word: the one with the smallest end");
        // cc ends at 4; bccb, which begins before, at 5; abccba, which begins first of all, at 6.
        Due.is("abccba", with("abelian 2 3", "abccba").firstPower(0), 201);
        // abcabc ends at 6, before cc.
        Due.is("abcabcc", with("abelian 2 3", "abcabcc").firstPower(0), 3);
        Due.is("aabb", with("abelian 2 3", "aabb").firstPower(0), 1);
    }

    private static void theSmallestBlocksGoFirst() {
        Doc.says(12, "among these the one with the smallest length of its blocks.");
        // bb and ac bb both end at 4, with the values 0, 1 and 2.
        Due.is("acbb", with("additive 2 3", "acbb").firstPower(0), 201);
        // cc and ba cc, with the values -2, 4 and twice 1.
        AbelianPowers x = with("additive 2 3", "bacc");
        x.setValue(0, 4);
        x.setValue(1, -2);
        x.setValue(2, 1);
        Due.is("bacc", x.firstPower(0), 201);
    }

    private static void firstPowerAsANumber() {
        Doc.says(12, "Returns 100 times the position of its first letter plus the length of its blocks");
        Due.is("the longest blocks of squares", with("equal 2 3", LONGEST_SQUARE).firstPower(0), 20);
        Due.is("the last position of squares", with("equal 2 3", SQUARE_FREE_39 + "b").firstPower(0), 3801);
        Due.is("the longest blocks of cubes", with("equal 3 2", "aabaababbaabb".repeat(3)).firstPower(0), 13);
        Due.is("the longest blocks of fourth powers", with("equal 4 2", "aaabaaabab".repeat(4)).firstPower(0), 10);
        Due.is("the last position of fourth powers", with("abelian 4 4", "aaabbbcccddd".repeat(3) + "aaaa").firstPower(0),
            3601);
        Due.is("two letters", with("equal 2 3", "aa").firstPower(0), 1);
        Due.is("one letter behind the first", with("equal 2 3", "abb").firstPower(0), 101);
    }

    private static void registersOfFirstPower() {
        Doc.says(12, "`word`: the word register", "BAD_ARGUMENT");
        AbelianPowers x = new AbelianPowers();
        Due.all("firstPower", -1, x::firstPower, Due.outside(0, 2));
        Due.all("firstPower", -2, x::firstPower, 0, 1, 2);
    }

    private static void freeWordsHaveNoFirstPower() {
        Doc.says(12, "NONE if the word is free.");
        Due.is("an empty word", with("equal 2 3", "").firstPower(0), -2);
        Due.is("one letter", with("equal 2 3", "a").firstPower(0), -2);
        Due.is("39 letters", with("equal 2 3", SQUARE_FREE_39).firstPower(0), -2);
        Due.is("40 letters", with("equal 2 3", SQUARE_FREE_39 + "c").firstPower(0), -2);
        Due.is("aa without cubes", with("equal 3 3", "aa").firstPower(0), -2);
        Due.is("aaa without fourth powers", with("equal 4 3", "aaa").firstPower(0), -2);
    }

    // ---- promises 13 and 14

    private static void numberOfPowers() {
        Doc.says(13, "Returns the number of powers in a word.", "Returns the number of powers");
        Due.is("an empty word", with("abelian 2 3", "").powerCount(0), 0);
        Due.is("one letter", with("abelian 2 3", "a").powerCount(0), 0);
        Due.is("aa", with("abelian 2 3", "aa").powerCount(0), 1);
        // aa three times, and aa aa.
        Due.is("aaaa", with("abelian 2 3", "aaaa").powerCount(0), 4);
        Due.is("aaaa, cubes", with("abelian 3 3", "aaaa").powerCount(0), 2);
        Due.is("aaaa, fourth powers", with("abelian 4 3", "aaaa").powerCount(0), 1);
        // 39 + 37 + .. + 1 squares; 38 + 35 + .. + 2 cubes; 37 + 33 + .. + 1 fourth powers.
        for (String kind : new String[] {"equal", "abelian", "additive", "mixed"}) {
            Due.is("squares of a full word", with(kind + " 2 3", a(40)).powerCount(0), 400);
            Due.is("cubes of a full word", with(kind + " 3 3", a(40)).powerCount(0), 260);
            Due.is("fourth powers of a full word", with(kind + " 4 3", a(40)).powerCount(0), 190);
        }
        Due.is("the longest square alone", with("equal 2 3", LONGEST_SQUARE).powerCount(0), 1);
    }

    private static void registersOfPowerCount() {
        Doc.says(13, "`word`: the word register", "BAD_ARGUMENT.");
        AbelianPowers x = new AbelianPowers();
        Due.all("powerCount", -1, x::powerCount, Due.outside(0, 2));
        Due.all("powerCount", 0, x::powerCount, 0, 1, 2);
    }

    private static void longestFreePrefix() {
        Doc.says(14, "Returns the length of the longest prefix of a word that is free.", "Returns the length");
        Due.is("an empty word", with("equal 2 3", "").freePrefix(0), 0);
        Due.is("one letter", with("equal 2 3", "c").freePrefix(0), 1);
        Due.is("aa", with("equal 2 3", "aa").freePrefix(0), 1);
        Due.is("aab: aab is not free", with("equal 2 3", "aab").freePrefix(0), 1);
        Due.is("a full word of one letter, squares", with("equal 2 3", a(40)).freePrefix(0), 1);
        Due.is("a full word of one letter, cubes", with("equal 3 3", a(40)).freePrefix(0), 2);
        Due.is("a full word of one letter, fourth powers", with("equal 4 3", a(40)).freePrefix(0), 3);
        Due.is("a full word that is free", with("equal 2 3", SQUARE_FREE_39 + "c").freePrefix(0), 40);
        Due.is("a power at the end", with("equal 2 3", SQUARE_FREE_39 + "b").freePrefix(0), 39);
        Due.is("a power that is the word", with("equal 2 3", LONGEST_SQUARE).freePrefix(0), 39);
    }

    private static void registersOfFreePrefix() {
        Doc.says(14, "`word`: the word register", "BAD_ARGUMENT.");
        AbelianPowers x = new AbelianPowers();
        Due.all("freePrefix", -1, x::freePrefix, Due.outside(0, 2));
        Due.all("freePrefix", 0, x::freePrefix, 0, 1, 2);
    }

    // ---- promise 15

    private static void lettersThatKeepAWordFree() {
        Doc.says(15, "Returns which letters can be appended to a word such that it stays free.",
            "Returns the set of letters, bit i for letter i");
        for (int k = 2; k <= 4; k++) {
            int all = (1 << k) - 1;
            Due.is("an empty word", with("abelian 2 " + k, "").extensions(0), all);
            Due.is("a", with("abelian 2 " + k, "a").extensions(0), all - 1);
            Due.is("b", with("abelian 2 " + k, "b").extensions(0), all - 2);
            Due.is("a without cubes", with("abelian 3 " + k, "a").extensions(0), all);
            Due.is("aa without cubes", with("abelian 3 " + k, "aa").extensions(0), all - 1);
        }
        Due.is("the greatest letter", with("abelian 2 4", "d").extensions(0), 7);
        Due.is("no letter", with("abelian 2 3", "abacaba").extensions(0), 0);
        Due.is("the last letter alone", with("abelian 2 3", "aba").extensions(0), 4);
    }

    private static void extensionsOfAFullWord() {
        Doc.says(15, "The limit of 40 letters does not matter for this.");
        AbelianPowers x = with("equal 2 4", SQUARE_FREE_39 + "d");
        // No square holds the only d, so that the next letter can be any other.
        Due.is("a full word, squares", x.extensions(0), 7);
        Due.textIs(x, 0, SQUARE_FREE_39 + "d");
        Due.is("its length", x.length(0), 40);
        for (String kind : new String[] {"equal", "abelian", "additive", "mixed"}) {
            x = with(kind + " 4 4", "aaabbbcccddd".repeat(3) + "abbb");
            // Values with which the word is free for the kind additive, too.
            x.setValue(2, 5);
            x.setValue(3, -7);
            Due.is(kind + ": a full word, fourth powers", x.extensions(0), 15 - 2);
        }
        Due.is("its length", x.length(0), 40);
    }

    private static void registersOfExtensions() {
        Doc.says(15, "`word`: the word register", "BAD_ARGUMENT");
        AbelianPowers x = new AbelianPowers();
        Due.all("extensions", -1, x::extensions, Due.outside(0, 2));
        Due.all("extensions", 7, x::extensions, 0, 1, 2);
    }

    private static void extensionsOfAWordThatIsNotFree() {
        Doc.says(15, "NOT_FREE if the word itself is not free.");
        Due.is("a power at the end", with("abelian 2 3", "cbaa").extensions(0), -5);
        Due.is("a power at the beginning", with("abelian 2 3", "aabc").extensions(0), -5);
        Due.is("a power that is the word", with("equal 2 3", LONGEST_SQUARE).extensions(0), -5);
        Due.is("a full word of one letter", with("abelian 4 3", a(40)).extensions(0), -5);
        Due.is("aaa without fourth powers", with("abelian 4 3", "aaa").extensions(0), 6);
        Due.is("aaaa", with("abelian 4 3", "aaaa").extensions(0), -5);
    }
}
