/** What the project's tests share: they say which answers are due, and end with exit code 1 if one was wrong. */
final class Due {
    private static int asked = 0;
    private static int wrong = 0;

    private Due() {
    }

    static void is(String call, long got, long want) {
        asked++;
        if (got != want) {
            wrong++;
            System.out.println(call + " answered " + got + ", due is " + want);
        }
    }

    static void that(String what, boolean holds) {
        is(what, holds ? 1 : 0, 1);
    }

    static boolean anyWrong() {
        return wrong > 0;
    }

    static void end() {
        System.out.println(asked + " answers, " + wrong + " wrong");
        if (wrong > 0 || asked == 0) {
            System.exit(1);
        }
    }

    static void feed(AbelianPowers x, String text) {
        for (int i = 0; i < text.length(); i++) {
            x.feed(text.charAt(i));
        }
    }

    static int problem(AbelianPowers x, String text) {
        feed(x, text);
        return x.parseProblem();
    }

    static int image(AbelianPowers x, String text) {
        feed(x, text);
        return x.parseImage();
    }

    /** Makes a register hold a word. */
    static void word(AbelianPowers x, int word, String letters) {
        x.clearWord(word);
        for (int i = 0; i < letters.length(); i++) {
            x.append(word, letters.charAt(i) - 'a');
        }
    }

    /** What a register holds. */
    static String text(AbelianPowers x, int word) {
        StringBuilder letters = new StringBuilder();
        for (int i = 0; i < x.length(word); i++) {
            letters.append((char) ('a' + x.letter(word, i)));
        }
        return letters.toString();
    }

    static void textIs(AbelianPowers x, int word, String want) {
        String got = text(x, word);
        asked++;
        if (!got.equals(want)) {
            wrong++;
            System.out.println("register " + word + " holds " + got + ", due is " + want);
        }
    }
}
