import java.util.ArrayList;
import java.util.List;

/**
 * All 900 morphisms of two letters, which alone have closures of at most 200 templates: the determinant, the closure,
 * each of its templates and their occurrences in some words must be those of NaivePowers.
 */
public final class ClosureTest {
    private static final String[] WORDS = {"abbabaabbaababbabaababba", "aaabaaabbbabbaabab", "bbbbbaaaaabb"};

    public static void main(String[] args) {
        List<String> images = new ArrayList<>();
        for (int size = 1; size <= 4; size++) {
            for (int bits = 0; bits < 1 << size; bits++) {
                StringBuilder image = new StringBuilder();
                for (int i = 0; i < size; i++) image.append((bits >> i & 1) == 0 ? 'a' : 'b');
                images.add(image.toString());
            }
        }
        int number = 0;
        for (String a : images) {
            for (String b : images) {
                compare(a, b, number++ % 10 == 0);
            }
        }
        Due.end();
    }

    private static AbelianPowers made(String a, String b) {
        AbelianPowers real = Due.withMorphism(2, a, b);
        real.computeClosure();
        return real;
    }

    private static NaivePowers naive(String a, String b) {
        NaivePowers naive = new NaivePowers();
        "abelian 2 2".chars().forEach(naive::feed);
        naive.parseProblem();
        for (String image : new String[] {"a:" + a, "b:" + b}) {
            image.chars().forEach(naive::feed);
            naive.parseImage();
        }
        return naive;
    }

    private static void compare(String a, String b, boolean withWords) {
        NaivePowers naive = naive(a, b);
        AbelianPowers real = Due.withMorphism(2, a, b);
        String name = " of " + a + ", " + b;
        Due.is("determinant()" + name, real.determinant(), naive.determinant());
        int size = naive.computeClosure();
        Due.is("computeClosure()" + name, real.computeClosure(), size);
        for (int i = 0; i <= size; i++) {
            // An object is used for at most 512 calls.
            real = i % 70 == 0 ? made(a, b) : real;
            for (int what = 0; what <= 5; what++) {
                Due.is("template(" + i + ", " + what + ")" + name, real.template(i, what), naive.template(i, what));
            }
        }
        for (int word = 0; word < WORDS.length && withWords; word++) {
            compareOccurrences(made(a, b), naive, word, size, name);
        }
    }

    private static void compareOccurrences(AbelianPowers real, NaivePowers naive, int word, int size, String name) {
        Due.word(real, word, WORDS[word]);
        WORDS[word].chars().forEach(c -> naive.append(word, c - 'a'));
        for (int i = 0; i <= size; i++) {
            Due.is("occurrence(" + word + ", " + i + ")" + name, real.occurrence(word, i), naive.occurrence(word, i));
        }
    }
}
