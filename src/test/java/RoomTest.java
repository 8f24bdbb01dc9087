import java.lang.management.ManagementFactory;

/** All calls of a run live in one room: an object is small, and no call makes an object or an array. */
public final class RoomTest {
    private static final com.sun.management.ThreadMXBean BEAN =
        (com.sun.management.ThreadMXBean) ManagementFactory.getThreadMXBean();
    private static final int[] TEXT = {97, 100, 100, 105, 116, 105, 118, 101, 32, 50, 32, 50};
    private static final int[] IMAGES = {97, 58, 97, 98, 98, 98, 58, 97, 97, 97, 98};

    public static void main(String[] args) {
        AbelianPowers warm = new AbelianPowers();
        callEverything(warm);
        allocated();
        long before = allocated();
        AbelianPowers x = new AbelianPowers();
        long made = allocated();
        callEverything(x);
        long after = allocated();
        Due.that("an object takes " + (made - before) + " bytes, due are at most 20000", made - before <= 20000);
        Due.that("the calls took " + (after - made) + " bytes, due are none", after - made <= 200);
        Due.end();
    }

    private static long allocated() {
        return BEAN.getThreadAllocatedBytes(Thread.currentThread().getId());
    }

    private static void callEverything(AbelianPowers x) {
        x.countFree(8);
        x.countNormal(8);
        x.longestFree();
        for (int i = 0; i < TEXT.length; i++) {
            x.feed(TEXT[i]);
        }
        x.parseProblem();
        for (int i = 0; i < IMAGES.length; i++) {
            x.feed(IMAGES[i]);
            if (i == 4 || i == 10) {
                x.parseImage();
            }
        }
        x.setValue(0, 5);
        for (int w = 0; w < 3; w++) {
            x.append(w, w % 2);
            x.smallestFree(3, w);
            x.firstPower(w);
            x.powerCount(w);
            x.freePrefix(w);
            x.extensions(w);
            x.occurrences(w, 0, 1, 0);
            x.equivalent(w, 0, 1, 1);
            x.length(w);
            x.letter(w, 0);
            x.newArray(w, 41);
            x.setElement(w, 0, 1);
            x.prefixSums(w, w);
            x.element(w, 0);
            x.apply(w);
            x.iterate(w, 0);
        }
        x.saveSnapshot();
        x.restoreSnapshot();
        x.problem(0);
        x.imageLength(0);
        x.determinant();
        x.computeClosure();
        for (int i = 0; i < 200; i++) {
            x.template(i, i % 5);
            x.occurrence(0, i);
        }
        x.clearWord(0);
        x.parseProblem();
        x.parseImage();
    }
}
