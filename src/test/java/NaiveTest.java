import java.util.ArrayList;
import java.util.List;
import java.util.Random;

/**
 * Runs of calls on a new object, of at most 512 calls, with arguments drawn from a fixed seed: each answer must be
 * that of NaivePowers. At the end of a run, and after some errors, the whole state that can be seen is compared.
 */
public final class NaiveTest {
    private static final int[] ODD = {-1, Integer.MIN_VALUE, Integer.MAX_VALUE, 3, 4, 41, 100, -40};
    private static final String[] KINDS = {"equal", "abelian", "additive", "mixed"};
    /** Morphisms, most of them with a closure that is small enough to be remembered. */
    private static final String[] MORPHISMS = {
        "a b", "b a", "aa b", "b aa", "aaa bbb", "aaa babb", "aaab babb", "bab bbbb", "aa babb", "ab aaaa", "bb aaba",
        "aaaa baab", "aab bba", "abbb baaa", "aba bab", "aa baab", "bb abba", "abb aaab", "bba baaa", "aab babb", "ab ba",
        "ab b", "aaaa bbbb cccc", "abc bca ccc", "abc bcd cda dab"};

    private final Random random;
    private final AbelianPowers real = new AbelianPowers();
    private final NaivePowers naive = new NaivePowers();
    private final List<String> log = new ArrayList<>();
    private int calls;

    private NaiveTest(long seed) {
        random = new Random(seed);
    }

    public static void main(String[] args) {
        int runs = args.length > 0 ? Integer.parseInt(args[0]) : 60;
        long firstSeed = args.length > 1 ? Long.parseLong(args[1]) : 1;
        for (int i = 0; i < runs && !Due.anyWrong(); i++) new NaiveTest(firstSeed + i).run(i);
        Due.end();
    }

    private void run(int i) {
        while (calls < 512 && !Due.anyWrong()) act(i % 3);
        if (Due.anyWrong()) System.out.println(String.join("; ", log));
    }

    private void same(String call, long got, long want) {
        calls++;
        log.add(call + " = " + got);
        Due.is(call, got, want);
    }

    private int arg(int size) {
        return random.nextInt(12) == 0 ? ODD[random.nextInt(ODD.length)] : random.nextInt(size);
    }

    private void feed(String text) {
        for (int i = 0; i < text.length(); i++) {
            int b = text.charAt(i);
            same("feed(" + b + ")", real.feed(b), naive.feed(b));
        }
    }

    /** Now and then a text is cut, lengthened or changed. */
    private String spoiled(String text) {
        int at = random.nextInt(text.length());
        switch (random.nextInt(12)) {
            case 0: return text.substring(0, at);
            case 1: return text + " abcd123:".charAt(random.nextInt(9));
            case 2: return text.substring(0, at) + " abcdeilmqx15:".charAt(random.nextInt(14)) + text.substring(at + 1);
            default: return text;
        }
    }

    private void changeProblem() {
        int letters = random.nextInt(4) == 0 ? 2 + random.nextInt(3) : naive.problem(2);
        feed(spoiled(KINDS[random.nextInt(4)] + " " + (2 + random.nextInt(3)) + " " + letters));
        same("parseProblem()", real.parseProblem(), naive.parseProblem());
    }

    private String letters(int count) {
        StringBuilder text = new StringBuilder();
        for (int i = 0; i < count; i++) text.append((char) ('a' + random.nextInt(naive.problem(2))));
        return text.toString();
    }

    private void changeImage() {
        char letter = (char) ('a' + random.nextInt(naive.problem(2)));
        String image = random.nextBoolean() ? letter + letters(random.nextInt(4)) : letters(1 + random.nextInt(4));
        feed(spoiled(letter + ":" + image));
        same("parseImage()", real.parseImage(), naive.parseImage());
    }

    private void changeMorphism() {
        String[] images = MORPHISMS[random.nextInt(MORPHISMS.length)].split(" ");
        if (images.length != naive.problem(2)) {
            feed(KINDS[random.nextInt(4)] + " 2 " + images.length);
            same("parseProblem()", real.parseProblem(), naive.parseProblem());
        }
        for (int x = 0; x < images.length; x++) {
            feed((char) ('a' + x) + ":" + images[x]);
            same("parseImage()", real.parseImage(), naive.parseImage());
        }
    }

    private void lengthenWord() {
        int word = arg(3);
        for (int i = random.nextInt(30); i >= 0; i--) {
            int letter = arg(naive.problem(2));
            // A letter that keeps the word free is taken more often, so that long free words are met too.
            int set = naive.extensions(word);
            for (int tries = 0; tries < 3 && set > 0 && (set >> letter & 1) == 0; tries++) letter = arg(naive.problem(2));
            same("append(" + word + ", " + letter + ")", real.append(word, letter), naive.append(word, letter));
        }
    }

    private void readClosure() {
        changeMorphism();
        int size = naive.computeClosure();
        same("computeClosure()", real.computeClosure(), size);
        for (int j = 0; j < 12; j++) {
            int i = arg(Math.max(size, 3));
            int what = arg(3 + naive.problem(2));
            same("template(" + i + ", " + what + ")", real.template(i, what), naive.template(i, what));
            int word = arg(3);
            int sought = arg(Math.max(size, 3));
            same("occurrence(" + word + ", " + sought + ")", real.occurrence(word, sought), naive.occurrence(word, sought));
        }
        if (size > 0) wholeClosure(size);
    }

    /** The templates one by one are not counted as calls of the run: reading them changes nothing. */
    private void wholeClosure(int size) {
        for (int i = 0; i <= size; i++) {
            for (int what = -1; what <= 7; what++) {
                Due.is("template(" + i + ", " + what + ")", real.template(i, what), naive.template(i, what));
            }
            for (int word = 0; word < 3; word++) {
                Due.is("occurrence(" + word + ", " + i + ")", real.occurrence(word, i), naive.occurrence(word, i));
            }
        }
    }

    private void compareWords() {
        for (int word = 0; word < 3; word++) {
            same("length(" + word + ")", real.length(word), naive.length(word));
            for (int i = 0; i < naive.length(word); i++) {
                Due.is("letter(" + word + ", " + i + ")", real.letter(word, i), naive.letter(word, i));
            }
        }
    }

    private void act(int taste) {
        switch (random.nextInt(taste == 0 ? 24 : 14)) {
            case 0: changeProblem(); break;
            case 1: changeImage(); break;
            case 2: case 3: lengthenWord(); break;
            case 4: compareWords(); break;
            case 5: case 6: askPowers(); break;
            case 7: askBlocks(); break;
            case 8: changeWord(); break;
            case 9: useArrays(); break;
            case 10: useSnapshot(); break;
            case 11: smallCalls(); break;
            case 12: if (random.nextInt(taste == 2 ? 1 : 6) == 0) readClosure(); break;
            default: search(); break;
        }
    }

    private void askPowers() {
        int word = arg(3);
        same("firstPower(" + word + ")", real.firstPower(word), naive.firstPower(word));
        same("powerCount(" + word + ")", real.powerCount(word), naive.powerCount(word));
        same("freePrefix(" + word + ")", real.freePrefix(word), naive.freePrefix(word));
        same("extensions(" + word + ")", real.extensions(word), naive.extensions(word));
    }

    private void askBlocks() {
        for (int j = 0; j < 8; j++) {
            int word = arg(3);
            int length = Math.max(1, naive.length(word));
            int start = arg(length);
            int other = arg(length);
            int size = arg(random.nextBoolean() ? 5 : length);
            int x = arg(naive.problem(2));
            String block = word + ", " + start + ", ";
            same("occurrences(" + block + size + ", " + x + ")", real.occurrences(word, start, size, x),
                naive.occurrences(word, start, size, x));
            same("equivalent(" + block + other + ", " + size + ")", real.equivalent(word, start, other, size),
                naive.equivalent(word, start, other, size));
            same("letter(" + word + ", " + start + ")", real.letter(word, start), naive.letter(word, start));
        }
    }

    private void changeWord() {
        int word = arg(3);
        int x = arg(naive.problem(2));
        switch (random.nextInt(3)) {
            case 0: same("clearWord(" + word + ")", real.clearWord(word), naive.clearWord(word)); break;
            case 1: same("apply(" + word + ")", real.apply(word), naive.apply(word)); break;
            default: same("iterate(" + word + ", " + x + ")", real.iterate(word, x), naive.iterate(word, x)); break;
        }
    }

    private void useArrays() {
        int array = arg(3);
        int size = random.nextInt(3) == 0 ? 41 : arg(42);
        if (random.nextInt(3) == 0) {
            same("newArray(" + array + ", " + size + ")", real.newArray(array, size), naive.newArray(array, size));
        }
        int i = arg(12);
        long value = random.nextLong();
        same("setElement(" + array + ", " + i + ", " + value + ")", real.setElement(array, i, value),
            naive.setElement(array, i, value));
        int word = arg(3);
        same("prefixSums(" + array + ", " + word + ")", real.prefixSums(array, word), naive.prefixSums(array, word));
        for (int j = -1; j <= 41; j++) {
            Due.is("element(" + array + ", " + j + ")", real.element(array, j), naive.element(array, j));
        }
    }

    private void useSnapshot() {
        if (random.nextBoolean()) {
            same("saveSnapshot()", real.saveSnapshot(), naive.saveSnapshot());
        } else {
            same("restoreSnapshot()", real.restoreSnapshot(), naive.restoreSnapshot());
            compareWords();
        }
    }

    private void smallCalls() {
        int what = arg(4);
        same("problem(" + what + ")", real.problem(what), naive.problem(what));
        int x = arg(naive.problem(2));
        int value = random.nextInt(21) - 10;
        same("setValue(" + x + ", " + value + ")", real.setValue(x, value), naive.setValue(x, value));
        same("imageLength(" + x + ")", real.imageLength(x), naive.imageLength(x));
        same("determinant()", real.determinant(), naive.determinant());
        same("computeClosure()", real.computeClosure(), naive.computeClosure());
        int b = new int[] {0, -1, 128, 127, 1, 32, Integer.MAX_VALUE}[random.nextInt(7)];
        same("feed(" + b + ")", real.feed(b), naive.feed(b));
    }

    private void search() {
        int n = random.nextInt(8) == 0 ? arg(10) : random.nextInt(9);
        switch (random.nextInt(4)) {
            case 0: same("countFree(" + n + ")", real.countFree(n), naive.countFree(n)); break;
            case 1: same("countNormal(" + n + ")", real.countNormal(n), naive.countNormal(n)); break;
            case 2: same("longestFree()", real.longestFree(), naive.longestFree()); break;
            default:
                int word = arg(3);
                int size = random.nextInt(8) == 0 ? random.nextInt(33) - 1 : 1 + random.nextInt(30);
                same("smallestFree(" + size + ", " + word + ")", real.smallestFree(size, word),
                    naive.smallestFree(size, word));
                compareWords();
                break;
        }
    }
}
