import java.util.ArrayList;
import java.util.List;

/**
 * All 900 morphisms of two letters, which alone have closures of at most 200 templates: the determinant, the closure,
 * each of its templates and their occurrences in some words must be those of NaivePowers.
 */
public final class ClosureTest {
    private static final String[] WORDS = {"abbabaabbaababbabaababba", "aaabaaabbbabbaabab", "bbbbbaaaaabb"};

    public static void main(String[] args) {
        List<String> images = new ArrayList<>();
        for (int size = 1; size <= 4; size++) {
            for (int bits = 0; bits < 1 << size; bits++) {
                StringBuilder image = new StringBuilder();
                for (int i = 0; i < size; i++) image.append((bits >> i & 1) == 0 ? 'a' : 'b');
                images.add(image.toString());
            }
        }
        AbelianPowers real = null;
        int number = 0;
        for (String a : images) {
            for (String b : images) {
                // An object is used for at most 512 calls; a new one for each morphism is simplest.
                real = new AbelianPowers();
                compare(real, new NaivePowers(), a, b, number++ % 10 == 0);
            }
        }
        Due.end();
    }

    private static void compare(AbelianPowers real, NaivePowers naive, String a, String b, boolean withWords) {
        feed(real, naive, "abelian 2 2");
        Due.is("parseProblem()", real.parseProblem(), naive.parseProblem());
        feed(real, naive, "a:" + a);
        Due.is("parseImage()", real.parseImage(), naive.parseImage());
        feed(real, naive, "b:" + b);
        Due.is("parseImage()", real.parseImage(), naive.parseImage());
        String name = " of " + a + ", " + b;
        Due.is("determinant()" + name, real.determinant(), naive.determinant());
        int size = naive.computeClosure();
        Due.is("computeClosure()" + name, real.computeClosure(), size);
        for (int i = 0; i <= size; i++) {
            for (int what = 0; what <= 5; what++) {
                Due.is("template(" + i + ", " + what + ")" + name, real.template(i, what), naive.template(i, what));
            }
        }
        if (withWords) compareOccurrences(real, naive, size, name);
    }

    private static void compareOccurrences(AbelianPowers real, NaivePowers naive, int size, String name) {
        for (int word = 0; word < WORDS.length; word++) {
            for (char c : WORDS[word].toCharArray()) {
                real.append(word, c - 'a');
                naive.append(word, c - 'a');
            }
            for (int i = 0; i <= size; i++) {
                Due.is("occurrence(" + word + ", " + i + ")" + name, real.occurrence(word, i), naive.occurrence(word, i));
            }
        }
    }

    private static void feed(AbelianPowers real, NaivePowers naive, String text) {
        for (char c : text.toCharArray()) {
            real.feed(c);
            naive.feed(c);
        }
    }
}
