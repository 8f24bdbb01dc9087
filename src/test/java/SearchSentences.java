/** Promises 16 to 19, sentence by sentence: searches for free words, and their numbers. */
final class SearchSentences {
    private SearchSentences() {
    }

    static void ask() {
        theSmallestWord();
        theSearchStartsWithTheEmptyWord();
        eachTrialIsAStep();
        theSearchGoesBack();
        theSearchStopsAtOnce();
        theWordComesIntoTheRegister();
        lengthsOfSmallestFree();
        registersOfSmallestFree();
        stepsBeyondTheLimit();
        noSuchWord();
        registerIsUnchangedWithoutAWord();
        numberOfFreeWords();
        lengthsOfCountFree();
        numberOfNormalWords();
        lettersThatDoNotOccurAreGreater();
        lengthsOfCountNormal();
        greatestLength();
        wordsOfTwelveLetters();
        longestFreeBeyondTheLimit();
    }

    /** Additive cubes of four letters with two values: the searches of the class that take most steps. */
    private static AbelianPowers withValues(int... values) {
        AbelianPowers x = Due.withProblem("additive 3 4");
        for (int i = 0; i < values.length; i++) {
            x.setValue(i, values[i]);
        }
        return x;
    }

    // ---- promise 16

    private static void theSmallestWord() {
        Doc.says(16, "Finds the lexicographically smallest free word of a length.");
        smallest("abelian 2 3", "a", "ab", "aba", "abac", "abaca", "abacab", "abacaba");
        smallest("equal 3 2", "a", "aa", "aab", "aaba", "aabaa", "aabaab", "aabaaba", "aabaabaa", "aabaababa");
        smallest("equal 4 2", "a", "aa", "aaa", "aaab", "aaaba", "aaabaa", "aaabaaa");
        smallest("additive 2 4", "a", "ab", "aba", "abac", "abaca");
        smallest("mixed 2 2", "a", "ab", "aba");
    }

    private static void smallest(String problem, String... words) {
        AbelianPowers x = Due.withProblem(problem);
        for (String word : words) {
            Due.that(problem + ": there is one", x.smallestFree(word.length(), 1) > 0);
            Due.textIs(x, 1, word);
        }
    }

    private static void theSearchStartsWithTheEmptyWord() {
        Doc.says(16, "The search starts with the empty word.");
        AbelianPowers x = new AbelianPowers();
        Due.word(x, 0, "cb");
        Due.is("the word of the register has no part in it", x.smallestFree(2, 0), 3);
        Due.textIs(x, 0, "ab");
        Due.is("nor has the one found before", x.smallestFree(3, 0), 4);
        Due.textIs(x, 0, "aba");
    }

    private static void eachTrialIsAStep() {
        Doc.says(16, "It tries to append the letters in increasing order to the present word", "each trial is a step",
            "If the word stays free, the search goes on with the longer word, otherwise with the next letter",
            "Returns the number of steps");
        AbelianPowers x = new AbelianPowers();
        // a, aa (not free), ab, aba, abaa (not), abab (not), abac, abaca, abacaa (not), abacab, abacaba.
        int[] steps = {1, 3, 4, 7, 8, 10, 11};
        for (int n = 1; n <= 7; n++) {
            Due.is("steps for " + n, x.smallestFree(n, 0), steps[n - 1]);
        }
        // a, aa, aaa, aaaa (not), aaab.
        Due.is("steps for aaab", Due.withProblem("equal 4 4").smallestFree(4, 0), 5);
    }

    private static void theSearchGoesBack() {
        Doc.says(16, "if no letter is left, it goes back.");
        AbelianPowers x = Due.withProblem("equal 3 2");
        // a, aa, aaa (not free), aab, aaba, aabaa, aabaaa (not), aabaab, aabaaba, aabaabaa.
        Due.is("steps for 8", x.smallestFree(8, 0), 10);
        // Then aabaabaaa (not), aabaabaab (not), and back: aabaabab, aabaababa.
        Due.is("steps for 9", x.smallestFree(9, 0), 14);
        Due.textIs(x, 0, "aabaababa");
    }

    private static void theSearchStopsAtOnce() {
        Doc.says(16, "It stops when the word has n letters.");
        AbelianPowers x = Due.withProblem("abelian 4 4");
        Due.is("steps for 1", x.smallestFree(1, 0), 1);
        Due.is("steps for 2", x.smallestFree(2, 0), 2);
        Due.is("steps for 3", x.smallestFree(3, 0), 3);
        Due.textIs(x, 0, "aaa");
    }

    private static void theWordComesIntoTheRegister() {
        Doc.says(16, "The word that is found becomes the word of the register.");
        for (int w = 0; w < 3; w++) {
            AbelianPowers x = new AbelianPowers();
            for (int v = 0; v < 3; v++) {
                Due.word(x, v, "c".repeat(40));
            }
            Due.is("smallestFree", x.smallestFree(3, w), 4);
            for (int v = 0; v < 3; v++) {
                Due.textIs(x, v, v == w ? "aba" : "c".repeat(40));
            }
        }
    }

    private static void lengthsOfSmallestFree() {
        Doc.says(16, "`n`: the length, 1 to 30", "BAD_ARGUMENT");
        AbelianPowers x = Due.withProblem("equal 2 3");
        Due.all("smallestFree", -1, n -> x.smallestFree(n, 0), Due.outside(1, 30));
        Due.is("length after refused calls", x.length(0), 0);
        Due.is("smallestFree(1, 0)", x.smallestFree(1, 0), 1);
        Due.textIs(x, 0, "a");
        Due.that("smallestFree(30, 0)", x.smallestFree(30, 0) >= 30);
        Due.textIs(x, 0, "abacabcacbabcabacabcacbacabacb");
    }

    private static void registersOfSmallestFree() {
        Doc.says(16, "`word`: the word register", "BAD_ARGUMENT");
        AbelianPowers x = new AbelianPowers();
        Due.all("smallestFree", -1, w -> x.smallestFree(3, w), Due.outside(0, 2));
        Due.all("smallestFree without a word", -1, w -> x.smallestFree(8, w), Due.outside(0, 2));
        Due.all("smallestFree", 4, w -> x.smallestFree(3, w), 0, 1, 2);
    }

    /** No problem and no values are known that need a number of steps nearer to 20000. */
    private static void stepsBeyondTheLimit() {
        Doc.says(16, "LIMIT if more than 20000 steps would be needed");
        Due.is("19452 steps", withValues(0, 1, 1, 1).smallestFree(10, 0), -2);
        Due.is("19452 steps", withValues(9, 9, 9, -9).smallestFree(30, 0), -2);
        Due.is("36244 steps", withValues(0, 0, 1, 1).smallestFree(10, 0), -4);
        Due.is("36244 steps", withValues(-9, 9, -9, 9).smallestFree(30, 0), -4);
        AbelianPowers x = withValues(0, 0, 1, 1);
        Due.that("a word that is found before the limit", x.smallestFree(9, 0) > 0);
        Due.is("its length", x.length(0), 9);
    }

    private static void noSuchWord() {
        Doc.says(16, "NONE if there is no such word.");
        AbelianPowers x = new AbelianPowers();
        Due.that("abelian squares of three letters, 7", x.smallestFree(7, 0) > 0);
        for (int n = 8; n <= 30; n++) {
            Due.is("abelian squares of three letters", x.smallestFree(n, 0), -2);
        }
        AbelianPowers y = Due.withProblem("equal 2 2");
        Due.that("squares of two letters, 3", y.smallestFree(3, 0) > 0);
        Due.is("squares of two letters, 4", y.smallestFree(4, 0), -2);
        AbelianPowers z = Due.withProblem("additive 2 2");
        z.setValue(0, 1);
        Due.that("one letter is free", z.smallestFree(1, 0) > 0);
        Due.is("two letters of one value are not", z.smallestFree(2, 0), -2);
    }

    private static void registerIsUnchangedWithoutAWord() {
        Doc.says(16, "The register is unchanged unless a word is found.");
        AbelianPowers x = withValues(0, 0, 1, 1);
        Due.word(x, 1, "dcba");
        Due.is("LIMIT", x.smallestFree(10, 1), -4);
        Due.textIs(x, 1, "dcba");
        Due.is("BAD_ARGUMENT", x.smallestFree(0, 1), -1);
        Due.is("BAD_ARGUMENT", x.smallestFree(31, 1), -1);
        Due.textIs(x, 1, "dcba");
        Due.problem(x, "additive 2 4");
        Due.is("NONE", x.smallestFree(4, 1), -2);
        Due.textIs(x, 1, "dcba");
        Due.is("length(0)", x.length(0), 0);
        Due.is("length(2)", x.length(2), 0);
    }

    // ---- promises 17 and 18

    private static void counts(String problem, int[] free, int[] normal) {
        AbelianPowers x = Due.withProblem(problem);
        for (int n = 0; n <= 8; n++) {
            Due.is(problem + ", countFree(" + n + ")", x.countFree(n), free[n]);
            Due.is(problem + ", countNormal(" + n + ")", x.countNormal(n), normal[n]);
        }
    }

    private static void numberOfFreeWords() {
        Doc.says(17, "Returns the number of free words of a length.", "Returns the number of free words");
        // Known numbers: words of three letters without squares and of two letters without cubes.
        counts("equal 2 3", new int[] {1, 3, 6, 12, 18, 30, 42, 60, 78}, new int[] {1, 1, 1, 2, 3, 5, 7, 10, 13});
        counts("equal 3 2", new int[] {1, 2, 4, 6, 10, 16, 24, 36, 56}, new int[] {1, 1, 2, 3, 5, 8, 12, 18, 28});
        counts("equal 2 2", new int[] {1, 2, 2, 2, 0, 0, 0, 0, 0}, new int[] {1, 1, 1, 1, 0, 0, 0, 0, 0});
        counts("abelian 2 3", new int[] {1, 3, 6, 12, 18, 30, 30, 18, 0}, new int[] {1, 1, 1, 2, 3, 5, 5, 3, 0});
    }

    private static void lengthsOfCountFree() {
        Doc.says(17, "`n`: the length, 0 to 8", "BAD_ARGUMENT.");
        for (int k = 2; k <= 4; k++) {
            AbelianPowers x = Due.withProblem("equal 4 " + k);
            Due.all("countFree", -1, x::countFree, Due.outside(0, 8));
            Due.is("countFree(0): the empty word", x.countFree(0), 1);
            Due.is("countFree(1)", x.countFree(1), k);
            Due.that("countFree(8)", x.countFree(8) > 0);
        }
    }

    private static void numberOfNormalWords() {
        Doc.says(18, "Returns the number of free words of a length in which letters occur for the first time in increasing "
            + "order: letter 0 before letter 1, that before letter 2, and so on", "Returns the number of such free words");
        AbelianPowers x = Due.withProblem("equal 4 4");
        Due.is("a", x.countNormal(1), 1);
        Due.is("aa, ab", x.countNormal(2), 2);
        Due.is("aaa, aab, aba, abb, abc", x.countNormal(3), 5);
        // 15 partitions of four places into sets, without aaaa.
        Due.is("of four letters", x.countNormal(4), 14);
    }

    private static void lettersThatDoNotOccurAreGreater() {
        Doc.says(18, "where letters that do not occur are greater than all that occur.");
        AbelianPowers x = Due.withProblem("equal 2 4");
        Due.is("the empty word: no letter occurs", x.countNormal(0), 1);
        Due.is("a, not b, c or d", x.countNormal(1), 1);
        Due.is("ab, not ac or ad", x.countNormal(2), 1);
        Due.is("aba and abc, not abd or aca", x.countNormal(3), 2);
        x = Due.withProblem("equal 2 2");
        Due.is("aba: no more letters than there are", x.countNormal(3), 1);
    }

    private static void lengthsOfCountNormal() {
        Doc.says(18, "`n`: the length, 0 to 8", "BAD_ARGUMENT.");
        for (int k = 2; k <= 4; k++) {
            AbelianPowers x = Due.withProblem("equal 4 " + k);
            Due.all("countNormal", -1, x::countNormal, Due.outside(0, 8));
            Due.is("countNormal(0)", x.countNormal(0), 1);
            Due.that("countNormal(8)", x.countNormal(8) > 0);
        }
    }

    // ---- promise 19

    private static void greatestLength() {
        Doc.says(19, "Returns the maximum length of free words.", "Returns the maximum length, at most 11");
        Due.is("abelian squares of two letters", Due.withProblem("abelian 2 2").longestFree(), 3);
        Due.is("abelian squares of three letters", Due.withProblem("abelian 2 3").longestFree(), 7);
        Due.is("abelian cubes of two letters", Due.withProblem("abelian 3 2").longestFree(), 9);
        for (int e = 2; e <= 4; e++) {
            AbelianPowers x = Due.withProblem("additive " + e + " 2");
            x.setValue(1, 0);
            Due.is("powers of letters with one value", x.longestFree(), e - 1);
        }
        AbelianPowers x = Due.withProblem("equal 2 3");
        Due.is("words of 12 letters", x.longestFree(), -2);
        Due.problem(x, "abelian 2 3");
        Due.is("what was reached before does not matter", x.longestFree(), 7);
        Due.problem(x, "abelian 2 2");
        Due.is("nor what was reached then", x.longestFree(), 3);
    }

    private static void wordsOfTwelveLetters() {
        Doc.says(19, "All free words are searched as by smallestFree, but words of 12 letters are not extended.",
            "NONE if there is a free word of 12 letters");
        for (String problem : new String[] {"equal 2 3", "equal 3 2", "abelian 2 4", "abelian 4 2", "mixed 3 2", "equal 4 4"}) {
            AbelianPowers x = Due.withProblem(problem);
            Due.that(problem + ": smallestFree(12, 0)", x.smallestFree(12, 0) > 0);
            Due.is(problem + ": longestFree()", x.longestFree(), -2);
        }
        for (String problem : new String[] {"equal 2 2", "abelian 2 3", "abelian 3 2", "mixed 2 2"}) {
            AbelianPowers x = Due.withProblem(problem);
            int longest = x.longestFree();
            Due.that(problem + ": a word of that length", x.smallestFree(longest, 0) > 0);
            Due.is(problem + ": none of a greater length", x.smallestFree(longest + 1, 0), -2);
        }
    }

    private static void longestFreeBeyondTheLimit() {
        Doc.says(19, "LIMIT if more than 20000 steps would be needed before the result is known.");
        Due.is("19452 steps", withValues(0, 1, 1, 1).longestFree(), 9);
        Due.is("19452 steps", withValues(-9, 9, -9, -9).longestFree(), 9);
        Due.is("36244 steps", withValues(0, 0, 1, 1).longestFree(), -4);
        Due.is("36244 steps", withValues(9, -9, -9, 9).longestFree(), -4);
        // The result is known as soon as a word of 12 letters is met, long before all words are searched.
        Due.is("a word of 12 letters is met early", Due.withProblem("equal 4 4").longestFree(), -2);
    }
}
