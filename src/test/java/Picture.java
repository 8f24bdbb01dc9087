/**
 * All of an object's state that calls can show, as a text; taking it spoils the object. Objects that were made by the same
 * calls have the same picture, and a call that changes nothing leaves it so.
 */
final class Picture {
    private static final int[] TEMPLATES = {0, 1, 7, 50, 100, 112, 113, 120, 121, 199, 200};

    private final AbelianPowers x;
    private final StringBuilder text = new StringBuilder();

    private Picture(AbelianPowers x) {
        this.x = x;
    }

    static String of(AbelianPowers x) {
        Picture picture = new Picture(x);
        picture.closure();
        picture.arrays();
        picture.problemAndWords();
        picture.values();
        picture.input();
        picture.images();
        picture.put("snapshot", x.restoreSnapshot());
        picture.problemAndWords();
        picture.values();
        picture.images();
        return picture.text.toString();
    }

    private void put(String what, long answer) {
        text.append(what).append('=').append(answer).append(' ');
    }

    private void closure() {
        for (int i : TEMPLATES) {
            for (int what = 0; what < 6; what++) {
                put("template", x.template(i, what));
            }
        }
    }

    private void arrays() {
        for (int array = 0; array < 3; array++) {
            for (int i : new int[] {0, 1, 2, 3, 4, 40}) {
                put("element", x.element(array, i));
            }
            // Tells an empty array from a missing one.
            put("setElement", x.setElement(array, 41, 0));
        }
    }

    private void problemAndWords() {
        for (int what = 0; what < 3; what++) {
            put("problem", x.problem(what));
            text.append(Due.text(x, what)).append(' ');
        }
    }

    private void values() {
        for (int letter = 0; letter < 4; letter++) {
            put("value", x.setValue(letter, 0));
        }
    }

    /** Mostly the beginning of an image is in the input, otherwise the beginning of a problem fills it. */
    private void input() {
        int size = x.feed('b');
        put("feed", size);
        put("parse", size < 0 ? x.parseProblem() : x.parseImage());
    }

    private void images() {
        for (int letter = 0; letter < 4; letter++) {
            put("imageLength", x.imageLength(letter));
            text.append(x.imageLength(letter) > 0 ? Due.imageText(x, letter) : "").append(' ');
        }
    }
}
