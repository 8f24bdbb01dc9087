import java.io.IOException;
import java.lang.reflect.Constructor;
import java.lang.reflect.Field;
import java.lang.reflect.Method;
import java.lang.reflect.Modifier;
import java.nio.file.Files;
import java.nio.file.Path;
import java.util.ArrayList;
import java.util.List;
import java.util.Set;
import java.util.TreeSet;
import java.util.regex.Matcher;
import java.util.regex.Pattern;

/** The document's face, all of it and nothing else, and the rules of LANGUAGE.md that a text search can tell. */
public final class FaceTest {
    private static final String[] METHODS = {
        "int feed(int)", "int parseProblem()", "int problem(int)", "int setValue(int,int)", "int append(int,int)",
        "int clearWord(int)", "int length(int)", "int letter(int,int)", "int occurrences(int,int,int,int)",
        "int equivalent(int,int,int,int)", "int firstPower(int)", "int powerCount(int)", "int freePrefix(int)",
        "int extensions(int)", "int smallestFree(int,int)", "int countFree(int)", "int countNormal(int)",
        "int longestFree()", "int parseImage()", "int imageLength(int)", "int apply(int)", "int iterate(int,int)",
        "long determinant()", "int computeClosure()", "int template(int,int)", "int occurrence(int,int)",
        "int newArray(int,int)", "int setElement(int,int,long)", "long element(int,int)", "int prefixSums(int,int)",
        "int saveSnapshot()", "int restoreSnapshot()"};
    private static final String[] CONSTANTS = {
        "BAD_ARGUMENT=-1", "NONE=-2", "FULL=-3", "LIMIT=-4", "NOT_FREE=-5", "MISSING_IMAGE=-6", "NOT_PROLONGABLE=-7",
        "SINGULAR=-8", "NULL_ARRAY=-11", "INDEX_OUT_OF_RANGE=-13", "NEGATIVE_SIZE=-14", "SYNTAX_ERROR=-100"};
    private static final String[] FORBIDDEN = {
        "\\bthrow\\b", "\\btry\\b", "\\bcatch\\b", "\\bsynchronized\\b", "\\bassert\\b", "->", "::", "\\bimport\\b",
        "\\bpackage\\b", "Exact\\b", "\\bObject\\b", "\\bSystem\\.(?!arraycopy)", "\\bThread\\b", "Random", "\\bprotected\\b",
        "\\bequals\\b", "\\bhashCode\\b", "\\btoString\\b", "[^\\x00-\\x7f]"};

    public static void main(String[] args) throws ReflectiveOperationException, IOException {
        Class<?> face = AbelianPowers.class;
        Due.that("the class is public and final", Modifier.isPublic(face.getModifiers()) && Modifier.isFinal(face.getModifiers()));
        methods(face);
        constants(face);
        Constructor<?>[] constructors = face.getDeclaredConstructors();
        Due.that("one public constructor without parameters", constructors.length == 1
            && Modifier.isPublic(constructors[0].getModifiers()) && constructors[0].getParameterCount() == 0);
        classesInside(face);
        asTheDocumentWritesIt();
        text();
        Due.end();
    }

    private static String signature(Method method) {
        StringBuilder text = new StringBuilder(method.getReturnType().getName() + " " + method.getName() + "(");
        for (Class<?> type : method.getParameterTypes()) {
            text.append(text.charAt(text.length() - 1) == '(' ? "" : ",").append(type.getName());
        }
        return text.append(")").toString();
    }

    private static void methods(Class<?> face) {
        Set<String> open = new TreeSet<>();
        Set<String> publicNames = new TreeSet<>();
        for (Method method : face.getDeclaredMethods()) {
            if (!Modifier.isPrivate(method.getModifiers())) {
                open.add((Modifier.isPublic(method.getModifiers()) ? "" : "not public: ") + signature(method));
                publicNames.add(method.getName());
            }
        }
        Due.that("the methods are " + open, open.equals(Set.of(METHODS)));
        for (Class<?> type : face.getDeclaredClasses()) {
            for (Method method : type.getDeclaredMethods()) {
                Due.that(method + " bears the name of a public method", !publicNames.contains(method.getName()));
            }
        }
        for (Method method : face.getDeclaredMethods()) {
            Due.that(method + " bears the name of a public method",
                !Modifier.isPrivate(method.getModifiers()) || !publicNames.contains(method.getName()));
        }
    }

    private static void constants(Class<?> face) throws IllegalAccessException {
        Set<String> open = new TreeSet<>();
        for (Field field : face.getDeclaredFields()) {
            int modifiers = field.getModifiers();
            if (!Modifier.isPrivate(modifiers)) {
                boolean constant = Modifier.isPublic(modifiers) && Modifier.isStatic(modifiers)
                    && Modifier.isFinal(modifiers) && field.getType() == int.class;
                open.add(field.getName() + (constant ? "=" + field.getInt(null) : " is no public constant"));
            }
            Due.that(field + " is static, not final", !Modifier.isStatic(modifiers) || Modifier.isFinal(modifiers));
        }
        Due.that("the constants are " + open, open.equals(Set.of(CONSTANTS)));
    }

    /** The face that the tests above ask for is the document's, line by line and in its order. */
    private static void asTheDocumentWritesIt() {
        if (!Doc.isThere()) {
            return;
        }
        List<String> due = new ArrayList<>();
        for (String constant : CONSTANTS) {
            due.add("public static final int " + constant.replace("=", " = ") + ";");
        }
        due.add("public AbelianPowers();");
        for (String method : METHODS) {
            due.add("public " + method + ";");
        }
        List<String> found = new ArrayList<>();
        for (String line : Doc.face()) {
            found.add(line.replaceAll("(int|long) \\w+(?=[,)])", "$1").replace(", ", ","));
        }
        Due.same("the face of the document", found.toString(), due.toString());
    }

    private static void classesInside(Class<?> face) {
        Due.that("at most twelve classes", face.getDeclaredClasses().length < 12);
        for (Class<?> type : face.getDeclaredClasses()) {
            int modifiers = type.getModifiers();
            Due.that(type + " is static, and private or package-visible",
                Modifier.isStatic(modifiers) && !Modifier.isPublic(modifiers) && !Modifier.isProtected(modifiers));
            int fields = 0;
            for (Field field : type.getDeclaredFields()) {
                if (!Modifier.isStatic(field.getModifiers())) fields++;
            }
            Due.that(type + " has at most twenty fields", fields <= 20);
            for (Method method : type.getDeclaredMethods()) {
                Due.that(method + " has at most seven parameters", method.getParameterCount() <= 7);
            }
        }
    }

    private static void text() throws IOException {
        String text = Files.readString(Path.of("src/main/java/AbelianPowers.java"));
        String code = text.replaceAll("(?s)/\\*.*?\\*/", "").replaceAll("//[^\\n]*", "");
        for (String pattern : FORBIDDEN) {
            Matcher matcher = Pattern.compile(pattern).matcher(code);
            Due.that(pattern + " stands in the code", !matcher.find());
        }
    }
}
