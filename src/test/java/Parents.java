import java.util.ArrayList;
import java.util.List;

/** The parents of a template under a morphism of two letters, by the document's definition: all templates are tried. */
final class Parents {
    private final String[] images;

    Parents(String... images) {
        this.images = images;
    }

    List<List<Integer>> of(List<Integer> child) {
        List<List<Integer>> found = new ArrayList<>();
        for (int ends = 0; ends < 27; ends++) {
            int[] end = {ends / 9 - 1, ends / 3 % 3 - 1, ends % 3 - 1};
            List<int[]> products = products(child, end);
            for (int d0 = -9; d0 <= 9 && !products.isEmpty(); d0++) {
                for (int d1 = -9; d1 <= 9; d1++) {
                    if (isAmong(products, row(0, d0, d1), row(1, d0, d1))) {
                        found.add(List.of(end[0], end[1], end[2], d0, d1));
                    }
                }
            }
        }
        return found;
    }

    private static boolean isAmong(List<int[]> products, int x, int y) {
        return products.stream().anyMatch(p -> p[0] == x && p[1] == y);
    }

    /** The matrix's row times the difference. */
    private int row(int x, int d0, int d1) {
        return count(images[0], x) * d0 + count(images[1], x) * d1;
    }

    /** What the matrix times the parent's difference must be, for each way to split the images of its ends. */
    private List<int[]> products(List<Integer> child, int[] end) {
        List<int[]> all = new ArrayList<>();
        for (String[] first : splits(end[0], child.get(0))) {
            for (String[] second : splits(end[1], child.get(1))) {
                for (String[] third : splits(end[2], child.get(2))) {
                    int[] product = new int[2];
                    for (int x = 0; x < 2; x++) {
                        product[x] = child.get(3 + x) - count(second[1], x) - count(third[0], x) + count(first[1], x)
                            + count(second[0], x);
                    }
                    all.add(product);
                }
            }
        }
        return all;
    }

    /** All p and s for which the image of the parent's end is p, the child's end, s. */
    private List<String[]> splits(int parentEnd, int childEnd) {
        String image = parentEnd < 0 ? "" : images[parentEnd];
        String inner = childEnd < 0 ? "" : "ab".substring(childEnd, childEnd + 1);
        List<String[]> all = new ArrayList<>();
        for (int p = 0; p <= image.length(); p++) {
            if (image.startsWith(inner, p)) {
                all.add(new String[] {image.substring(0, p), image.substring(p + inner.length())});
            }
        }
        return all;
    }

    private static int count(String word, int letter) {
        return (int) word.chars().filter(c -> c == 'a' + letter).count();
    }
}
