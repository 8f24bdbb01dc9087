/** Promises 25 to 27: the closure, its templates and their occurrences. */
public final class TemplatesTest {
    public static void main(String[] args) {
        errorsOfTheClosure();
        sizesOfClosures();
        templatesOfTheIdentity();
        wrongNumbersOfTemplates();
        closureIsRemembered();
        occurrencesOfTemplates();
        errorsOfOccurrences();
        Due.end();
    }

    /** Promise 25. */
    private static void errorsOfTheClosure() {
        Due.is("no images", Due.withMorphism(3).computeClosure(), -6);
        Due.is("an image is missing", Due.withMorphism(3, "a", "b").computeClosure(), -6);
        Due.is("singular", Due.withMorphism(2, "ab", "ba").computeClosure(), -8);
        Due.is("singular, four letters", Due.withMorphism(4, "ab", "bc", "cd", "da").computeClosure(), -8);
        Due.is("three letters", Due.withMorphism(3, "a", "b", "c").computeClosure(), -4);
        Due.is("four letters", Due.withMorphism(4, "aaaa", "bbbb", "cccc", "dddd").computeClosure(), -4);
    }

    /** The sizes are those of NaivePowers; that of the identity was counted by hand as well. */
    private static void sizesOfClosures() {
        Due.is("a, b", Due.withMorphism(2, "a", "b").computeClosure(), 113);
        Due.is("aaa, babb", Due.withMorphism(2, "aaa", "babb").computeClosure(), 114);
        Due.is("aaaa, b", Due.withMorphism(2, "aaaa", "b").computeClosure(), 121);
        Due.is("b, aa", Due.withMorphism(2, "b", "aa").computeClosure(), 129);
        Due.is("aaab, bbba", Due.withMorphism(2, "aaab", "bbba").computeClosure(), 143);
        Due.is("aa, baab", Due.withMorphism(2, "aa", "baab").computeClosure(), 167);
        Due.is("baab, aa", Due.withMorphism(2, "baab", "aa").computeClosure(), 199);
        Due.is("200 templates are not too many", Due.withMorphism(2, "abb", "aaab").computeClosure(), 200);
        Due.is("202 templates are too many", Due.withMorphism(2, "aab", "babb").computeClosure(), -4);
        Due.is("1216 templates are too many", Due.withMorphism(2, "abb", "aabb").computeClosure(), -4);
        AbelianPowers x = Due.withMorphism(2, "a", "b");
        Due.problem(x, "mixed 4 2");
        Due.is("kind and exponent do not matter", x.computeClosure(), 113);
    }

    private static void isTemplate(AbelianPowers x, int i, int... due) {
        for (int what = 0; what < due.length; what++) {
            Due.is("template(" + i + ", " + what + ")", x.template(i, what), due[what] + 10);
        }
    }

    /** Promise 26: the ends, -1 for an empty one, and the numbers. */
    private static void templatesOfTheIdentity() {
        AbelianPowers x = Due.withMorphism(2, "a", "b");
        x.computeClosure();
        isTemplate(x, 0, -1, -1, -1, 0, 0);
        isTemplate(x, 1, -1, -1, 0, -1, 0);
        isTemplate(x, 2, -1, -1, 0, 0, 0);
        isTemplate(x, 3, -1, -1, 1, 0, -1);
        isTemplate(x, 4, -1, -1, 1, 0, 0);
        isTemplate(x, 5, -1, 0, -1, -1, 0);
        isTemplate(x, 6, -1, 0, -1, 1, 0);
        isTemplate(x, 7, -1, 0, 0, -2, 0);
        isTemplate(x, 8, -1, 0, 0, -1, 0);
        isTemplate(x, 9, -1, 0, 0, 0, 0);
        isTemplate(x, 10, -1, 0, 0, 1, 0);
        isTemplate(x, 11, -1, 0, 1, -1, -1);
        isTemplate(x, 12, -1, 0, 1, -1, 0);
        isTemplate(x, 13, -1, 0, 1, 1, -1);
        isTemplate(x, 14, -1, 0, 1, 1, 0);
        isTemplate(x, 24, -1, 1, 1, 0, 1);
        isTemplate(x, 25, 0, -1, -1, 0, 0);
        isTemplate(x, 26, 0, -1, -1, 1, 0);
        isTemplate(x, 108, 1, 1, 1, 0, -2);
        isTemplate(x, 112, 1, 1, 1, 0, 2);
    }

    private static void wrongNumbersOfTemplates() {
        AbelianPowers x = Due.withMorphism(2, "a", "b");
        Due.is("no closure: template(0, 0)", x.template(0, 0), -2);
        Due.is("no closure goes before a wrong part", x.template(0, 99), -2);
        x.computeClosure();
        Due.is("template(113, 0)", x.template(113, 0), -2);
        Due.is("template(-1, 0)", x.template(-1, 0), -2);
        Due.is("template(MAX, 0)", x.template(Integer.MAX_VALUE, 0), -2);
        Due.is("no template goes before a wrong part", x.template(113, 5), -2);
        Due.is("template(0, 4)", x.template(0, 4), 10);
        Due.is("template(0, 5)", x.template(0, 5), -1);
        Due.is("template(0, -1)", x.template(0, -1), -1);
        Due.is("template(0, MAX)", x.template(0, Integer.MAX_VALUE), -1);
        Due.is("template(112, 5)", x.template(112, 5), -1);
    }

    private static void closureIsRemembered() {
        AbelianPowers x = Due.withMorphism(2, "a", "b");
        x.computeClosure();
        Due.morphism(x, "ab", "ba");
        Due.is("singular", x.computeClosure(), -8);
        isTemplate(x, 112, 1, 1, 1, 0, 2);
        Due.morphism(x, "abb", "aabb");
        Due.is("too many", x.computeClosure(), -4);
        isTemplate(x, 6, -1, 0, -1, 1, 0);
        isTemplate(x, 112, 1, 1, 1, 0, 2);
        Due.is("no more templates", x.template(113, 0), -2);
        Due.problem(x, "equal 3 3");
        Due.is("missing images", x.computeClosure(), -6);
        isTemplate(x, 112, 1, 1, 1, 0, 2);
        Due.is("the letters are those of the computation", x.template(112, 5), -1);
        Due.morphism(x, "a", "b", "c");
        Due.is("too many with three letters", x.computeClosure(), -4);
        isTemplate(x, 112, 1, 1, 1, 0, 2);
        Due.is("the letters still are", x.template(112, 5), -1);
        x.saveSnapshot();
        Due.problem(x, "abelian 2 2");
        Due.morphism(x, "abb", "aaab");
        Due.is("another closure", x.computeClosure(), 200);
        Due.is("has more templates", x.template(199, 0) > 0 ? 1 : 0, 1);
        x.restoreSnapshot();
        Due.is("a snapshot has no closure", x.template(199, 0) > 0 ? 1 : 0, 1);
        Due.problem(x, "abelian 2 2");
        Due.morphism(x, "b", "aa");
        Due.is("a smaller closure", x.computeClosure(), 129);
        Due.is("takes the place of the greater one", x.template(129, 0), -2);
    }

    private static int occurrence(AbelianPowers x, String word, int i) {
        Due.word(x, 1, word);
        return x.occurrence(1, i);
    }

    /** Promise 27, with templates of templatesOfTheIdentity. */
    private static void occurrencesOfTemplates() {
        AbelianPowers x = Due.withMorphism(2, "a", "b");
        x.computeClosure();
        Due.is("square in an empty word", occurrence(x, "", 0), -2);
        Due.is("square in aba", occurrence(x, "aba", 0), -2);
        Due.is("square in abba", occurrence(x, "abba", 0), 202);
        Due.is("square in aab", occurrence(x, "aab", 0), 101);
        Due.is("square in abaab: the lowest position", occurrence(x, "abaab", 0), 10202);
        Due.is("square in aaaa: the shortest X1", occurrence(x, "aaaa", 0), 101);
        Due.is("X1 X2 a, alike, in bba", occurrence(x, "bba", 2), 101);
        Due.is("X1 X2 a, alike, in ba: both empty", occurrence(x, "ba", 2), 10000);
        Due.is("X1 X2 a, alike, in bb", occurrence(x, "bb", 2), -2);
        Due.is("X1 X2 a, X1 with an a more, in baa", occurrence(x, "baa", 1), 10100);
        Due.is("X1 X2 a, X1 with an a more, in aba", occurrence(x, "aba", 1), -2);
        Due.is("X1 a X2, X2 with an a more, in aa", occurrence(x, "aa", 6), 1);
        Due.is("X1 a X2, X2 with an a more, in baab", occurrence(x, "baab", 6), 102);
        Due.is("X1 a X2, X2 with an a more, in a", occurrence(x, "a", 6), -2);
        Due.is("X1 a X2 a, X2 with two a less, in aaaa", occurrence(x, "aaaa", 7), 200);
        Due.is("X1 a X2 b, X2 with an a more and a b less, in babaabb", occurrence(x, "babaabb", 13), 20101);
        Due.is("a X1 X2, alike, in bba: both empty, behind the last letter", occurrence(x, "bba", 25), 20000);
        Due.is("a X1 X2, alike, in bb", occurrence(x, "bb", 25), -2);
        Due.is("a X1 X2, X2 with an a more, in baba", occurrence(x, "baba", 26), -2);
        Due.is("a X1 X2, X2 with an a more, in babbaa", occurrence(x, "babbaa", 26), 10102);
        Due.is("b X1 b X2 b in bbbbb", occurrence(x, "bbbbb", 112), 2);
        Due.is("b X1 b X2 b in bbbb", occurrence(x, "bbbb", 112), -2);
        Due.is("b X1 b X2 b in abbabbabb", occurrence(x, "abbabbabb", 112), 20103);
        Due.is("b X1 b X2 b in ababbabbb", occurrence(x, "ababbabbb", 112), 10103);
        longWords(x);
    }

    private static void longWords(AbelianPowers x) {
        x.clearWord(2);
        for (int i = 0; i < 40; i++) {
            x.append(2, i == 19 || i == 39 ? 1 : 0);
        }
        Due.is("X1 X2 b with 19 letters before it", x.occurrence(2, 4), 10909);
        x.clearWord(2);
        for (int i = 0; i < 40; i++) {
            x.append(2, i == 39 ? 1 : 0);
        }
        Due.is("X1 X2 b with 39 letters before it", x.occurrence(2, 4), 11919);
        x.clearWord(2);
        for (int i = 0; i < 40; i++) {
            x.append(2, i % 2);
        }
        Due.is("b X1 b X2 b in a full word", x.occurrence(2, 112), -2);
        Due.is("square in a full word", x.occurrence(2, 0), 202);
    }

    private static void errorsOfOccurrences() {
        AbelianPowers x = Due.withMorphism(2, "a", "b");
        Due.word(x, 0, "aa");
        Due.is("no closure", x.occurrence(0, 0), -2);
        Due.is("no register goes before no closure", x.occurrence(3, 0), -1);
        x.computeClosure();
        Due.is("occurrence(0, 0)", x.occurrence(0, 0), 101);
        Due.is("occurrence(3, 0)", x.occurrence(3, 0), -1);
        Due.is("occurrence(-1, 0)", x.occurrence(-1, 0), -1);
        Due.is("occurrence(0, -1)", x.occurrence(0, -1), -2);
        Due.is("occurrence(0, 113)", x.occurrence(0, 113), -2);
        Due.is("occurrence(0, MAX)", x.occurrence(0, Integer.MAX_VALUE), -2);
        Due.is("an empty word has none", x.occurrence(1, 2), -2);
        Due.problem(x, "additive 3 2");
        Due.is("kind and exponent do not matter", x.occurrence(0, 0), 101);
        Due.problem(x, "abelian 2 3");
        Due.word(x, 0, "aa");
        Due.is("another number of letters", x.occurrence(0, 0), -2);
        Due.problem(x, "mixed 2 2");
        Due.word(x, 0, "aa");
        Due.is("the number of letters again", x.occurrence(0, 0), 101);
    }
}
