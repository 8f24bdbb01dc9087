/** Promises 16 to 19: searches for free words, and their numbers. */
public final class SearchesTest {
    public static void main(String[] args) {
        smallestWords();
        wrongArgumentsOfSmallestFree();
        smallestFreeLeavesTheRegister();
        limitOfSteps();
        numbersOfFreeWords();
        numbersOfNormalWords();
        wrongLengthsOfCounts();
        greatestLengths();
        searchesDependOnValues();
        Due.end();
    }

    /** Promise 16. */
    private static void smallestWords() {
        AbelianPowers x = new AbelianPowers();
        Due.is("smallestFree(1, 0)", x.smallestFree(1, 0), 1);
        Due.textIs(x, 0, "a");
        // a; aa fails; ab; aba.
        Due.is("smallestFree(3, 0)", x.smallestFree(3, 0), 4);
        Due.textIs(x, 0, "aba");
        Due.is("smallestFree(7, 2)", x.smallestFree(7, 2), 11);
        Due.textIs(x, 2, "abacaba");
        Due.is("there is none of 8", x.smallestFree(8, 2), -2);
        Due.is("there is none of 30", x.smallestFree(30, 2), -2);
        x = Due.withProblem("equal 2 2");
        Due.is("squares of two letters: 3", x.smallestFree(3, 1), 4);
        Due.textIs(x, 1, "aba");
        Due.is("squares of two letters: 4", x.smallestFree(4, 1), -2);
        x = Due.withProblem("equal 3 2");
        // Of the letters that are tried, only that of aaa fails.
        Due.is("cubes of two letters: 5", x.smallestFree(5, 1), 6);
        Due.textIs(x, 1, "aabaa");
        // Behind aabaabaa both letters fail, so that the search goes back to aabaab, a letter before the last.
        Due.is("cubes of two letters: 9", x.smallestFree(9, 1), 14);
        Due.textIs(x, 1, "aabaababa");
        x = Due.withProblem("equal 2 3");
        Due.is("squares of three letters: 20", x.smallestFree(20, 0), 41);
        Due.textIs(x, 0, "abacabcacbabcabacabc");
        Due.is("squares of three letters: 30", x.smallestFree(30, 0), 63);
        Due.is("length", x.length(0), 30);
        Due.is("it is free", x.firstPower(0), -2);
    }

    private static void wrongArgumentsOfSmallestFree() {
        AbelianPowers x = new AbelianPowers();
        Due.is("n = 0", x.smallestFree(0, 0), -1);
        Due.is("n = -1", x.smallestFree(-1, 0), -1);
        Due.is("n = 31", x.smallestFree(31, 0), -1);
        Due.is("n = MAX", x.smallestFree(Integer.MAX_VALUE, 0), -1);
        Due.is("word = -1", x.smallestFree(3, -1), -1);
        Due.is("word = 3", x.smallestFree(3, 3), -1);
        Due.is("a wrong register goes before no result", x.smallestFree(8, 3), -1);
    }

    private static void smallestFreeLeavesTheRegister() {
        AbelianPowers x = new AbelianPowers();
        Due.word(x, 0, "cc");
        Due.word(x, 1, "bb");
        Due.is("smallestFree(8, 0)", x.smallestFree(8, 0), -2);
        Due.is("smallestFree(31, 0)", x.smallestFree(31, 0), -1);
        Due.textIs(x, 0, "cc");
        Due.is("smallestFree(2, 0)", x.smallestFree(2, 0), 3);
        Due.textIs(x, 0, "ab");
        Due.textIs(x, 1, "bb");
    }

    /** Additive cubes of four letters, the values of three or of two of which are the same. */
    private static void limitOfSteps() {
        AbelianPowers x = Due.withProblem("additive 3 4");
        int[] values = {0, 1, 1, 1};
        for (int i = 0; i < 4; i++) {
            x.setValue(i, values[i]);
        }
        Due.word(x, 0, "dd");
        Due.is("19452 steps are within the limit", x.longestFree(), 9);
        Due.is("19452 steps are within the limit of smallestFree", x.smallestFree(10, 0), -2);
        x.setValue(1, 0);
        Due.is("36244 steps are beyond it", x.longestFree(), -4);
        Due.is("36244 steps are beyond that of smallestFree", x.smallestFree(10, 0), -4);
        Due.textIs(x, 0, "dd");
        Due.is("9 letters are found early", x.smallestFree(9, 0) > 0 ? 1 : 0, 1);
        Due.is("length", x.length(0), 9);
    }

    /** Promise 17. */
    private static void numbersOfFreeWords() {
        counts("abelian 2 3", false, 1, 3, 6, 12, 18, 30, 30, 18, 0);
        counts("equal 2 2", false, 1, 2, 2, 2, 0, 0, 0, 0, 0);
        counts("equal 2 3", false, 1, 3, 6, 12, 18, 30, 42, 60, 78);
        counts("equal 3 2", false, 1, 2, 4, 6, 10, 16, 24, 36, 56);
        counts("equal 4 2", false, 1, 2, 4, 8, 14, 26, 48, 88, 160);
        counts("abelian 2 4", false, 1, 4, 12, 36, 96, 264, 648, 1584, 3576);
        counts("abelian 4 4", false, 1, 4, 16, 64, 252, 996, 3936, 15552, 61356);
        counts("additive 2 4", false, 1, 4, 12, 36, 88, 216, 440, 896, 1626);
        counts("mixed 3 3", false, 1, 3, 9, 24, 66, 180, 486, 1314, 3558);
    }

    /** Promise 18. */
    private static void numbersOfNormalWords() {
        counts("abelian 2 3", true, 1, 1, 1, 2, 3, 5, 5, 3, 0);
        counts("equal 2 2", true, 1, 1, 1, 1, 0, 0, 0, 0, 0);
        counts("equal 3 2", true, 1, 1, 2, 3, 5, 8, 12, 18, 28);
        counts("equal 2 4", true, 1, 1, 1, 2, 4, 11, 29, 77, 202);
        counts("abelian 4 4", true, 1, 1, 2, 5, 14, 48, 176, 670, 2593);
        counts("additive 2 4", true, 1, 1, 1, 2, 4, 9, 19, 39, 77);
    }

    private static void counts(String problem, boolean normal, int... due) {
        AbelianPowers x = Due.withProblem(problem);
        for (int n = 0; n < due.length; n++) {
            Due.is(problem + (normal ? ", normal words of " : ", words of ") + n,
                normal ? x.countNormal(n) : x.countFree(n), due[n]);
        }
    }

    private static void wrongLengthsOfCounts() {
        AbelianPowers x = new AbelianPowers();
        int[] wrong = {-1, 9, Integer.MIN_VALUE, Integer.MAX_VALUE};
        for (int n : wrong) {
            Due.is("countFree(" + n + ")", x.countFree(n), -1);
            Due.is("countNormal(" + n + ")", x.countNormal(n), -1);
        }
    }

    /** Promise 19. */
    private static void greatestLengths() {
        Due.is("abelian 2 2", Due.withProblem("abelian 2 2").longestFree(), 3);
        Due.is("abelian 2 3", Due.withProblem("abelian 2 3").longestFree(), 7);
        Due.is("abelian 3 2", Due.withProblem("abelian 3 2").longestFree(), 9);
        Due.is("abelian 2 4", Due.withProblem("abelian 2 4").longestFree(), -2);
        Due.is("equal 2 2", Due.withProblem("equal 2 2").longestFree(), 3);
        Due.is("equal 2 3", Due.withProblem("equal 2 3").longestFree(), -2);
        Due.is("equal 3 2", Due.withProblem("equal 3 2").longestFree(), -2);
        Due.is("mixed 2 2", Due.withProblem("mixed 2 2").longestFree(), 3);
        Due.is("additive 3 2", Due.withProblem("additive 3 2").longestFree(), 9);
        AbelianPowers x = Due.withProblem("abelian 3 2");
        Due.is("9 first", x.longestFree(), 9);
        Due.problem(x, "abelian 2 3");
        Due.is("then 7", x.longestFree(), 7);
        Due.is("7 again", x.longestFree(), 7);
    }

    private static void searchesDependOnValues() {
        AbelianPowers x = Due.withProblem("additive 2 3");
        Due.word(x, 0, "abc");
        x.setValue(0, 4);
        x.setValue(1, 4);
        x.setValue(2, 4);
        Due.is("equal values: single letters alone are free", x.longestFree(), 1);
        Due.is("countFree(1)", x.countFree(1), 3);
        Due.is("countFree(2)", x.countFree(2), 0);
        Due.is("smallestFree(2, 0)", x.smallestFree(2, 0), -2);
        x.setValue(1, 5);
        Due.is("two values: as two letters", x.longestFree(), 3);
        // bab, bcb and the others: the middle letter is b, or both outer ones are.
        Due.is("countFree(3)", x.countFree(3), 6);
        // aba and abc, not acb, bab or those with c before b.
        Due.is("countNormal(3)", x.countNormal(3), 2);
        Due.textIs(x, 0, "abc");
    }
}
