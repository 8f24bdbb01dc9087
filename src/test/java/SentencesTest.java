/**
 * The document sentence by sentence: each has a test of its own that names it, with the cases at its boundary. A sentence
 * of a promise, or of a paragraph that binds all of them, that no test names is a fault, too.
 */
public final class SentencesTest {
    public static void main(String[] args) {
        DescriptionSentences.ask();
        ProblemSentences.ask();
        WordsSentences.ask();
        SearchSentences.ask();
        MorphismSentences.ask();
        TemplateSentences.ask();
        ArraySentences.ask();
        Doc.isNamedWhole();
        Due.end();
    }
}
