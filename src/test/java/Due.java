import java.util.function.IntUnaryOperator;

/** What the project's tests share: they say which answers are due, and end with exit code 1 if one was wrong. */
final class Due {
    private static int asked = 0;
    private static int wrong = 0;
    private static String topic = "";

    private Due() {
    }

    /** What the next answers are about; it is told with an answer that is wrong. */
    static void about(String what) {
        topic = what;
    }

    static void is(String call, long got, long want) {
        asked++;
        if (got != want) {
            tell(call + " answered " + got + ", due is " + want);
        }
    }

    static void that(String what, boolean holds) {
        is(what, holds ? 1 : 0, 1);
    }

    static void same(String what, String got, String want) {
        asked++;
        if (!got.equals(want)) {
            tell(what + " is " + got + ", due is " + want);
        }
    }

    private static void tell(String what) {
        wrong++;
        System.out.println(topic.isEmpty() ? what : "[" + topic + "] " + what);
    }

    static boolean anyWrong() {
        return wrong > 0;
    }

    static void end() {
        System.out.println(asked + " answers, " + wrong + " wrong");
        if (wrong > 0 || asked == 0) {
            System.exit(1);
        }
    }

    /** A call answers the same for each of the arguments. */
    static void all(String call, int want, IntUnaryOperator answer, int... arguments) {
        for (int argument : arguments) {
            is(call + " with " + argument, answer.applyAsInt(argument), want);
        }
    }

    /** Numbers outside a range: its neighbours, the extremes, and those that a narrower type would take for inside. */
    static int[] outside(int low, int high) {
        return new int[] {low - 1, high + 1, low - 256, high + 256, high + 65536, Integer.MIN_VALUE, Integer.MAX_VALUE};
    }

    static void feed(AbelianPowers x, String text) {
        for (int i = 0; i < text.length(); i++) {
            x.feed(text.charAt(i));
        }
    }

    static int problem(AbelianPowers x, String text) {
        feed(x, text);
        return x.parseProblem();
    }

    static int image(AbelianPowers x, String text) {
        feed(x, text);
        return x.parseImage();
    }

    static AbelianPowers withProblem(String problem) {
        AbelianPowers x = new AbelianPowers();
        problem(x, problem);
        return x;
    }

    /** An object with the images of the letters a, b and so on. */
    static AbelianPowers withMorphism(int letters, String... images) {
        AbelianPowers x = withProblem("abelian 2 " + letters);
        morphism(x, images);
        return x;
    }

    static void morphism(AbelianPowers x, String... images) {
        for (int i = 0; i < images.length; i++) {
            image(x, (char) ('a' + i) + ":" + images[i]);
        }
    }

    /** Makes a register hold a word. */
    static void word(AbelianPowers x, int word, String letters) {
        x.clearWord(word);
        for (int i = 0; i < letters.length(); i++) {
            x.append(word, letters.charAt(i) - 'a');
        }
    }

    /** What a register holds. */
    static String text(AbelianPowers x, int word) {
        StringBuilder letters = new StringBuilder();
        int length = x.length(word);
        for (int i = 0; i < length; i++) {
            letters.append((char) ('a' + x.letter(word, i)));
        }
        return letters.toString();
    }

    static void textIs(AbelianPowers x, int word, String want) {
        same("register " + word, text(x, word), want);
    }

    /** The image of a letter, as a register shows it, which loses its word. */
    static String imageText(AbelianPowers x, int letter) {
        word(x, 2, "" + (char) ('a' + letter));
        return x.apply(2) < 0 ? "" : text(x, 2);
    }

    static void elementsAre(AbelianPowers x, int array, long... want) {
        for (int i = 0; i < want.length; i++) {
            is("element(" + array + ", " + i + ")", x.element(array, i), want[i]);
        }
    }
}
