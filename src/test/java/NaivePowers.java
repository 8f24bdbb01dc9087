import java.util.ArrayList;
import java.util.Arrays;
import java.util.HashMap;
import java.util.List;
import java.util.Map;
import java.util.TreeSet;

/**
 * The document told again as slowly and literally as possible, with the Java library, to compare the class with.
 * It shares no idea with the class beyond the document: words are texts, blocks are compared by reading them, and the
 * parents of a template are found by trying all differences.
 */
final class NaivePowers {
    private static final String[] KINDS = {"equal", "abelian", "additive", "mixed"};

    private String input = "";
    private int kind = 1;
    private int e = 2;
    private int k = 3;
    private int[] values = {0, 1, 2, 3};
    private String[] words = {"", "", ""};
    private String[] images = {"", "", "", ""};
    private final long[][] arrays = new long[3][];
    private NaivePowers saved;
    private List<List<Integer>> closure = new ArrayList<>();
    private int closureLetters;
    private int steps;
    private int longest;

    // ---- the problem

    int feed(int b) {
        if (b < 1 || b > 127) return -1;
        if (input.length() == 16) return -3;
        input += (char) b;
        return input.length();
    }

    /** The position at which a text ceases to be the beginning of one of the texts that are allowed, or -1. */
    private int fault(List<String> allowed) {
        if (allowed.contains(input)) return -1;
        for (int p = 0; p < input.length(); p++) {
            String prefix = input.substring(0, p + 1);
            if (allowed.stream().noneMatch(text -> text.startsWith(prefix))) return p;
        }
        return input.length();
    }

    int parseProblem() {
        List<String> allowed = new ArrayList<>();
        for (String name : KINDS) {
            for (int i = 2; i <= 4; i++) {
                for (int j = 2; j <= 4; j++) allowed.add(name + " " + i + " " + j);
            }
        }
        int fault = fault(allowed);
        String text = input;
        input = "";
        if (fault >= 0) return -100 - fault;
        String[] parts = text.split(" ");
        kind = Arrays.asList(KINDS).indexOf(parts[0]);
        e = Integer.parseInt(parts[1]);
        int letters = Integer.parseInt(parts[2]);
        if (letters != k) {
            words = new String[] {"", "", ""};
            images = new String[] {"", "", "", ""};
            values = new int[] {0, 1, 2, 3};
        }
        k = letters;
        return e;
    }

    int problem(int what) {
        return what == 0 ? kind : what == 1 ? e : what == 2 ? k : -1;
    }

    int setValue(int letter, int value) {
        if (!isLetter(letter) || Math.abs((long) value) > 9) return -1;
        int previous = values[letter];
        values[letter] = value;
        return previous + 10;
    }

    private boolean isLetter(int letter) {
        return 0 <= letter && letter < k;
    }

    private static boolean isRegister(int word) {
        return 0 <= word && word < 3;
    }

    // ---- words

    int append(int word, int letter) {
        if (!isRegister(word) || !isLetter(letter)) return -1;
        if (words[word].length() == 40) return -3;
        words[word] += (char) ('a' + letter);
        return words[word].length();
    }

    int clearWord(int word) {
        if (!isRegister(word)) return -1;
        int previous = words[word].length();
        words[word] = "";
        return previous;
    }

    int length(int word) {
        return isRegister(word) ? words[word].length() : -1;
    }

    int letter(int word, int i) {
        if (!isRegister(word)) return -1;
        return 0 <= i && i < words[word].length() ? words[word].charAt(i) - 'a' : -2;
    }

    private static int count(String block, int letter) {
        return (int) block.chars().filter(c -> c == 'a' + letter).count();
    }

    private boolean inside(int word, int start, int size) {
        return start >= 0 && size >= 0 && (long) start + size <= words[word].length();
    }

    int occurrences(int word, int start, int size, int letter) {
        if (!isRegister(word) || !isLetter(letter) || !inside(word, start, size)) return -1;
        return count(words[word].substring(start, start + size), letter);
    }

    private boolean alike(String s, String t) {
        if (s.isEmpty()) return true;
        if (kind == 0) return s.equals(t);
        if (kind == 2) return sum(s) == sum(t);
        for (int x = 0; x < k; x++) {
            if (count(s, x) != count(t, x)) return false;
        }
        return kind == 1 || s.charAt(0) == t.charAt(0) && pairs(s).equals(pairs(t));
    }

    private int sum(String block) {
        return block.chars().map(c -> values[c - 'a']).sum();
    }

    private static Map<String, Integer> pairs(String block) {
        Map<String, Integer> counts = new HashMap<>();
        for (int i = 0; i + 2 <= block.length(); i++) counts.merge(block.substring(i, i + 2), 1, Integer::sum);
        return counts;
    }

    int equivalent(int word, int start, int other, int size) {
        if (!isRegister(word) || !inside(word, start, size) || !inside(word, other, size)) return -1;
        String w = words[word];
        return alike(w.substring(start, start + size), w.substring(other, other + size)) ? 1 : 0;
    }

    private boolean isPower(String w, int start, int size) {
        if (start + e * size > w.length()) return false;
        String first = w.substring(start, start + size);
        for (int i = 1; i < e; i++) {
            if (!alike(first, w.substring(start + i * size, start + (i + 1) * size))) return false;
        }
        return true;
    }

    /** All powers as {end, length of the blocks, start}. */
    private List<int[]> powers(String w) {
        List<int[]> found = new ArrayList<>();
        for (int start = 0; start < w.length(); start++) {
            for (int size = 1; size <= w.length(); size++) {
                if (isPower(w, start, size)) found.add(new int[] {start + e * size, size, start});
            }
        }
        found.sort(Arrays::compare);
        return found;
    }

    int firstPower(int word) {
        if (!isRegister(word)) return -1;
        List<int[]> found = powers(words[word]);
        return found.isEmpty() ? -2 : 100 * found.get(0)[2] + found.get(0)[1];
    }

    int powerCount(int word) {
        return isRegister(word) ? powers(words[word]).size() : -1;
    }

    int freePrefix(int word) {
        if (!isRegister(word)) return -1;
        for (int n = words[word].length(); ; n--) {
            if (powers(words[word].substring(0, n)).isEmpty()) return n;
        }
    }

    int extensions(int word) {
        if (!isRegister(word)) return -1;
        if (!powers(words[word]).isEmpty()) return -5;
        int set = 0;
        for (int x = 0; x < k; x++) {
            if (powers(words[word] + (char) ('a' + x)).isEmpty()) set += 1 << x;
        }
        return set;
    }

    // ---- searches

    /** Whether a word is free that is a letter longer than a free one: only a new power can end with it. */
    private boolean staysFree(String w) {
        for (int size = 1; e * size <= w.length(); size++) {
            if (isPower(w, w.length() - e * size, size)) return false;
        }
        return true;
    }

    /** The word that is found; null if there is none or the steps run out, which then are more than 20000. */
    private String extend(String w, int n) {
        longest = Math.max(longest, w.length());
        if (w.length() == n) return w;
        for (int x = 0; x < k; x++) {
            steps++;
            if (steps > 20000) return null;
            String longer = w + (char) ('a' + x);
            if (staysFree(longer)) {
                String found = extend(longer, n);
                if (found != null || steps > 20000) return found;
            }
        }
        return null;
    }

    int smallestFree(int n, int word) {
        if (n < 1 || n > 30 || !isRegister(word)) return -1;
        steps = 0;
        String found = extend("", n);
        if (steps > 20000) return -4;
        if (found == null) return -2;
        words[word] = found;
        return steps;
    }

    private List<String> freeWords(int n) {
        List<String> all = List.of("");
        for (int i = 0; i < n; i++) {
            List<String> longer = new ArrayList<>();
            for (String w : all) {
                for (int x = 0; x < k; x++) {
                    if (staysFree(w + (char) ('a' + x))) longer.add(w + (char) ('a' + x));
                }
            }
            all = longer;
        }
        return all;
    }

    int countFree(int n) {
        return n < 0 || n > 8 ? -1 : freeWords(n).size();
    }

    private boolean isNormal(String w) {
        int previous = -1;
        for (int x = 0; x < k; x++) {
            int first = w.indexOf('a' + x);
            first = first < 0 ? Integer.MAX_VALUE : first;
            if (first < previous) return false;
            previous = first;
        }
        return true;
    }

    int countNormal(int n) {
        return n < 0 || n > 8 ? -1 : (int) freeWords(n).stream().filter(this::isNormal).count();
    }

    int longestFree() {
        steps = 0;
        longest = 0;
        String found = extend("", 12);
        return steps > 20000 ? -4 : found != null ? -2 : longest;
    }

    // ---- the morphism

    int parseImage() {
        List<String> allowed = new ArrayList<>();
        for (int x = 0; x < k; x++) {
            List<String> starts = List.of((char) ('a' + x) + ":");
            for (int i = 0; i < 4; i++) {
                List<String> longer = new ArrayList<>();
                for (String start : starts) {
                    for (int y = 0; y < k; y++) longer.add(start + (char) ('a' + y));
                }
                starts = longer;
                allowed.addAll(starts);
            }
        }
        int fault = fault(allowed);
        String text = input;
        input = "";
        if (fault >= 0) return -100 - fault;
        images[text.charAt(0) - 'a'] = text.substring(2);
        return text.charAt(0) - 'a';
    }

    int imageLength(int letter) {
        return isLetter(letter) ? images[letter].length() : -1;
    }

    private String imageOf(String w) {
        StringBuilder image = new StringBuilder();
        w.chars().forEach(c -> image.append(images[c - 'a']));
        return image.toString();
    }

    int apply(int word) {
        if (!isRegister(word)) return -1;
        if (words[word].chars().anyMatch(c -> images[c - 'a'].isEmpty())) return -6;
        String image = imageOf(words[word]);
        if (image.length() > 40) return -3;
        words[word] = image;
        return image.length();
    }

    private boolean lacksImage() {
        return Arrays.asList(images).subList(0, k).contains("");
    }

    int iterate(int word, int letter) {
        if (!isRegister(word) || !isLetter(letter)) return -1;
        if (lacksImage()) return -6;
        String w = String.valueOf((char) ('a' + letter));
        if (!images[letter].startsWith(w) || images[letter].length() == 1) return -7;
        while (w.length() < 40) w = imageOf(w);
        words[word] = w.substring(0, 40);
        return 40;
    }

    private int entry(int i, int j) {
        return count(images[j], i);
    }

    /** The sum over all permutations. */
    private long leibniz(List<Integer> columns, long product) {
        if (columns.size() == k) return product;
        long sum = 0;
        for (int j = 0; j < k; j++) {
            if (columns.contains(j)) continue;
            int column = j;
            int sign = columns.stream().filter(c -> c > column).count() % 2 == 0 ? 1 : -1;
            List<Integer> more = new ArrayList<>(columns);
            more.add(j);
            sum += leibniz(more, sign * product * entry(columns.size(), j));
        }
        return sum;
    }

    long determinant() {
        return lacksImage() ? Long.MIN_VALUE : leibniz(List.of(), 1);
    }

    // ---- templates: a list of three ends, -1 for an empty one, and k numbers

    /** For each value that the matrix times a difference can have, that difference. */
    private Map<List<Integer>, List<Integer>> preimages() {
        Map<List<Integer>, List<Integer>> all = new HashMap<>();
        int combinations = (int) Math.pow(19, k);
        for (int c = 0; c < combinations; c++) {
            List<Integer> difference = new ArrayList<>();
            for (int x = 0, rest = c; x < k; x++, rest /= 19) difference.add(rest % 19 - 9);
            List<Integer> product = new ArrayList<>();
            for (int x = 0; x < k; x++) {
                int sum = 0;
                for (int y = 0; y < k; y++) sum += entry(x, y) * difference.get(y);
                product.add(sum);
            }
            all.put(product, difference);
        }
        return all;
    }

    /** All {A, p, s} for which the image of A is p a s; empty ends are empty texts. */
    private List<String[]> splits(String a) {
        List<String[]> all = new ArrayList<>();
        for (int i = -1; i < k; i++) {
            String parent = i < 0 ? "" : String.valueOf((char) ('a' + i));
            String image = imageOf(parent);
            for (int p = 0; p <= image.length(); p++) {
                if (image.startsWith(a, p)) {
                    all.add(new String[] {parent, image.substring(0, p), image.substring(p + a.length())});
                }
            }
        }
        return all;
    }

    private static String endText(int end) {
        return end < 0 ? "" : String.valueOf((char) ('a' + end));
    }

    private static int endNumber(String end) {
        return end.isEmpty() ? -1 : end.charAt(0) - 'a';
    }

    private static int order(List<Integer> s, List<Integer> t) {
        for (int i = 0; i < s.size(); i++) {
            if (!s.get(i).equals(t.get(i))) return Integer.compare(s.get(i), t.get(i));
        }
        return 0;
    }

    int computeClosure() {
        if (lacksImage()) return -6;
        if (determinant() == 0) return -8;
        Map<List<Integer>, List<Integer>> preimages = preimages();
        TreeSet<List<Integer>> known = new TreeSet<>(NaivePowers::order);
        List<Integer> square = new ArrayList<>(List.of(-1, -1, -1));
        for (int x = 0; x < k; x++) square.add(0);
        known.add(square);
        List<List<Integer>> waiting = new ArrayList<>(known);
        while (!waiting.isEmpty() && known.size() <= 200) {
            List<Integer> child = waiting.remove(waiting.size() - 1);
            for (List<Integer> parent : parents(child, preimages)) {
                if (known.add(parent)) waiting.add(parent);
            }
        }
        if (known.size() > 200) return -4;
        closure = new ArrayList<>(known);
        closureLetters = k;
        return known.size();
    }

    private List<List<Integer>> parents(List<Integer> t, Map<List<Integer>, List<Integer>> preimages) {
        List<List<Integer>> found = new ArrayList<>();
        for (String[] first : splits(endText(t.get(0)))) {
            for (String[] second : splits(endText(t.get(1)))) {
                for (String[] third : splits(endText(t.get(2)))) {
                    List<Integer> product = new ArrayList<>();
                    for (int x = 0; x < k; x++) {
                        product.add(t.get(3 + x) - count(second[2], x) - count(third[1], x)
                            + count(first[2], x) + count(second[1], x));
                    }
                    List<Integer> difference = preimages.get(product);
                    if (difference != null) {
                        List<Integer> parent = new ArrayList<>(
                            List.of(endNumber(first[0]), endNumber(second[0]), endNumber(third[0])));
                        parent.addAll(difference);
                        found.add(parent);
                    }
                }
            }
        }
        return found;
    }

    int template(int i, int what) {
        if (i < 0 || i >= closure.size()) return -2;
        if (what < 0 || what >= 3 + closureLetters) return -1;
        return closure.get(i).get(what) + 10;
    }

    int occurrence(int word, int i) {
        if (!isRegister(word)) return -1;
        if (i < 0 || i >= closure.size() || closureLetters != k) return -2;
        List<Integer> t = closure.get(i);
        String w = words[word];
        for (int start = 0; start < w.length(); start++) {
            for (int size1 = 0; start + size1 <= w.length(); size1++) {
                for (int size2 = 0; start + size1 + size2 <= w.length(); size2++) {
                    if (occurs(t, w.substring(start), size1, size2)) return 10000 * start + 100 * size1 + size2;
                }
            }
        }
        return -2;
    }

    private boolean occurs(List<Integer> t, String w, int size1, int size2) {
        String[] ends = {endText(t.get(0)), endText(t.get(1)), endText(t.get(2))};
        int size = ends[0].length() + size1 + ends[1].length() + size2 + ends[2].length();
        if (size == 0 || size > w.length()) return false;
        int from1 = ends[0].length();
        int from2 = from1 + size1 + ends[1].length();
        String x1 = w.substring(from1, from1 + size1);
        String x2 = w.substring(from2, from2 + size2);
        if (!w.substring(0, size).equals(ends[0] + x1 + ends[1] + x2 + ends[2])) return false;
        for (int x = 0; x < k; x++) {
            if (count(x2, x) - count(x1, x) != t.get(3 + x)) return false;
        }
        return true;
    }

    // ---- arrays, snapshot

    private static boolean isArray(int array) {
        return 0 <= array && array < 3;
    }

    int newArray(int array, int size) {
        if (!isArray(array) || size > 41) return -1;
        if (size < 0) return -14;
        arrays[array] = new long[size];
        return 1;
    }

    int setElement(int array, int i, long value) {
        if (!isArray(array)) return -1;
        if (arrays[array] == null) return -11;
        if (i < 0 || i >= arrays[array].length) return -13;
        arrays[array][i] = value;
        return 1;
    }

    long element(int array, int i) {
        if (!isArray(array) || arrays[array] == null || i < 0 || i >= arrays[array].length) return Long.MIN_VALUE;
        return arrays[array][i];
    }

    int prefixSums(int array, int word) {
        if (!isArray(array) || !isRegister(word)) return -1;
        if (arrays[array] == null) return -11;
        int prefixes = words[word].length() + 1;
        if (arrays[array].length < prefixes) return -13;
        for (int n = 0; n < prefixes; n++) arrays[array][n] = sum(words[word].substring(0, n));
        return prefixes;
    }

    private void copySaved(NaivePowers from) {
        kind = from.kind;
        e = from.e;
        k = from.k;
        values = from.values.clone();
        words = from.words.clone();
        images = from.images.clone();
    }

    private int allLetters() {
        return String.join("", words).length();
    }

    int saveSnapshot() {
        saved = new NaivePowers();
        saved.copySaved(this);
        return allLetters();
    }

    int restoreSnapshot() {
        if (saved == null) return -2;
        copySaved(saved);
        return allLetters();
    }
}
