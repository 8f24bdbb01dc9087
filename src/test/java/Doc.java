import java.io.IOException;
import java.io.UncheckedIOException;
import java.nio.file.Files;
import java.nio.file.Path;
import java.util.ArrayList;
import java.util.Arrays;
import java.util.LinkedHashMap;
import java.util.List;
import java.util.Map;

/**
 * The document: a test names the sentences that it asks for, which must stand there word for word. What no test named
 * can be told, so that no sentence is forgotten.
 */
final class Doc {
    private static final Path PATH = Path.of("../shared/DOC.md");
    /** The paragraphs of the Description that bind all promises. */
    private static final List<String> PARAGRAPHS = List.of(
        "Words", "Kinds", "Powers", "Morphisms", "Templates", "Parents", "Order of templates", "Errors");
    private static final Map<String, List<String>> SENTENCES = read();
    private static final Map<String, List<String>> NAMED = new LinkedHashMap<>();

    private Doc() {
    }

    static void says(int promise, String... sentences) {
        says("Promise " + promise, sentences);
    }

    static void says(String part, String... sentences) {
        Due.about(part + ": " + String.join(" / ", sentences));
        for (String sentence : sentences) {
            NAMED.computeIfAbsent(part, p -> new ArrayList<>()).add(sentence);
            String all = String.join(" ", SENTENCES.getOrDefault(part, List.of()));
            Due.that("the document says so", all.contains(sentence) || SENTENCES.isEmpty());
        }
    }

    /** Asks that every sentence of the promises and of the binding paragraphs was named, whole or part by part. */
    static void isNamedWhole() {
        Due.about("");
        if (SENTENCES.isEmpty()) {
            System.out.println("no document at " + PATH + ": the sentences that tests name were not looked up");
            return;
        }
        Due.is("the promises and binding paragraphs of the document", SENTENCES.size(), 33 + PARAGRAPHS.size());
        SENTENCES.forEach((part, sentences) -> {
            for (String sentence : sentences) {
                Due.that("a test for " + part + ": " + sentence, isNamed(bare(sentence), NAMED.getOrDefault(part, List.of())));
            }
        });
    }

    static boolean isThere() {
        return !SENTENCES.isEmpty();
    }

    /** The examples of the description, each its name, a colon, and calls with their answers. */
    static List<String> examples() {
        List<String> examples = new ArrayList<>();
        for (String paragraph : text().split("\\n\\s*\\n")) {
            if (paragraph.startsWith("  ")) {
                examples.add(paragraph.strip().replaceAll("\\s+", " "));
            }
        }
        return examples;
    }

    /** The lines of the public face, between those that open and close the class. */
    static List<String> face() {
        List<String> lines = new ArrayList<>();
        boolean inside = false;
        for (String line : text().split("\\n")) {
            if (line.startsWith("```")) {
                inside = line.equals("```java");
            } else if (inside && line.startsWith("    ")) {
                lines.add(line.strip());
            }
        }
        return lines;
    }

    private static boolean isNamed(String sentence, List<String> named) {
        boolean[] covered = new boolean[sentence.length()];
        for (String part : named) {
            int from = part.contains(sentence) ? 0 : sentence.indexOf(bare(part));
            int to = part.contains(sentence) ? sentence.length() : from + bare(part).length();
            if (from >= 0) {
                Arrays.fill(covered, from, to, true);
            }
        }
        for (int i = 0; i < covered.length; i++) {
            if (!covered[i] && Character.isLetterOrDigit(sentence.charAt(i))) {
                return false;
            }
        }
        return true;
    }

    private static String bare(String sentence) {
        return sentence.replaceAll("[.;]$", "");
    }

    private static Map<String, List<String>> read() {
        Map<String, List<String>> parts = new LinkedHashMap<>();
        for (String section : text().split("(?m)^## ")) {
            String[] paragraphs = section.split("\\n\\s*\\n|\\n(?=- )");
            String head = paragraphs[0].strip();
            for (int i = 1; i < paragraphs.length; i++) {
                String paragraph = paragraphs[i].strip().replaceAll("\\s+", " ");
                if (head.startsWith("Promise ")) {
                    addPromise(parts, head.replaceAll(":.*", ""), paragraph);
                } else if (head.equals("Description")) {
                    addParagraph(parts, paragraph);
                }
            }
        }
        return parts;
    }

    private static String text() {
        try {
            return Files.exists(PATH) ? Files.readString(PATH) : "";
        } catch (IOException e) {
            throw new UncheckedIOException(e);
        }
    }

    /** Signatures, which FaceTest asks for, and the heads of groups are no sentences. */
    private static void addPromise(Map<String, List<String>> parts, String promise, String paragraph) {
        if (!paragraph.startsWith("`") && !paragraph.startsWith("----")) {
            add(parts, promise, paragraph.replaceAll("^- ", ""));
        }
    }

    private static void addParagraph(Map<String, List<String>> parts, String paragraph) {
        int stop = paragraph.indexOf(". ");
        String name = stop < 0 ? "" : paragraph.substring(0, stop);
        if (PARAGRAPHS.contains(name)) {
            add(parts, name, paragraph.substring(stop + 2));
        }
    }

    private static void add(Map<String, List<String>> parts, String part, String text) {
        parts.computeIfAbsent(part, p -> new ArrayList<>()).addAll(List.of(text.split("(?<=[.;]) ")));
    }
}
