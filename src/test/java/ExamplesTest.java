/**
 * The examples at the end of the document's description, each with a new object: as they are written here, and as they
 * are read from the document.
 */
public final class ExamplesTest {
    public static void main(String[] args) {
        abelianSquare();
        noAbelianSquares();
        letterTooMany();
        extensionsOfAb();
        missingImage();
        asTheDocumentWritesThem();
        Due.end();
    }

    private static void asTheDocumentWritesThem() {
        if (!Doc.isThere()) {
            return;
        }
        int examples = 0;
        for (String example : Doc.examples()) {
            Due.about(example.replaceAll(":.*", ""));
            AbelianPowers x = new AbelianPowers();
            for (String row : example.replaceAll("^[^:]*: |\\.$", "").split("; ")) {
                String[] sides = row.split(" = ");
                Calls.due(x, sides[0], sides.length == 2 ? sides[1] : "nothing");
            }
            examples++;
        }
        Due.about("");
        Due.is("the examples of the document", examples, 5);
    }

    private static void abelianSquare() {
        AbelianPowers x = new AbelianPowers();
        Due.is("append(0, 0)", x.append(0, 0), 1);
        Due.is("append(0, 1)", x.append(0, 1), 2);
        Due.is("append(0, 2)", x.append(0, 2), 3);
        Due.is("append(0, 0)", x.append(0, 0), 4);
        Due.is("append(0, 2)", x.append(0, 2), 5);
        Due.is("append(0, 1)", x.append(0, 1), 6);
        Due.is("firstPower(0)", x.firstPower(0), 3);
        Due.is("powerCount(0)", x.powerCount(0), 1);
        Due.is("freePrefix(0)", x.freePrefix(0), 5);
    }

    private static void noAbelianSquares() {
        AbelianPowers x = new AbelianPowers();
        Due.is("countFree(3)", x.countFree(3), 12);
        Due.is("countNormal(3)", x.countNormal(3), 2);
        Due.is("longestFree()", x.longestFree(), 7);
        Due.is("smallestFree(7, 1)", x.smallestFree(7, 1), 11);
        Due.is("letter(1, 3)", x.letter(1, 3), 2);
    }

    private static void letterTooMany() {
        AbelianPowers x = new AbelianPowers();
        Due.is("feed(97)", x.feed(97), 1);
        Due.is("feed(98)", x.feed(98), 2);
        Due.is("feed(120)", x.feed(120), 3);
        Due.is("parseProblem()", x.parseProblem(), -102);
    }

    private static void extensionsOfAb() {
        AbelianPowers x = new AbelianPowers();
        Due.is("append(2, 0)", x.append(2, 0), 1);
        Due.is("append(2, 1)", x.append(2, 1), 2);
        Due.is("extensions(2)", x.extensions(2), 5);
    }

    private static void missingImage() {
        AbelianPowers x = new AbelianPowers();
        Due.is("iterate(0, 0)", x.iterate(0, 0), -6);
        Due.is("feed(97)", x.feed(97), 1);
        Due.is("feed(58)", x.feed(58), 2);
        Due.is("feed(97)", x.feed(97), 3);
        Due.is("feed(98)", x.feed(98), 4);
        Due.is("parseImage()", x.parseImage(), 0);
        Due.is("imageLength(0)", x.imageLength(0), 2);
        Due.is("append(1, 0)", x.append(1, 0), 1);
        Due.is("apply(1)", x.apply(1), 2);
        Due.is("determinant()", x.determinant(), Long.MIN_VALUE);
    }
}
