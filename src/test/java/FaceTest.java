import java.io.IOException;
import java.lang.reflect.Constructor;
import java.lang.reflect.Executable;
import java.lang.reflect.Field;
import java.lang.reflect.Method;
import java.lang.reflect.Modifier;
import java.nio.file.Files;
import java.nio.file.Path;
import java.util.ArrayList;
import java.util.Arrays;
import java.util.List;
import java.util.Set;
import java.util.TreeSet;
import java.util.stream.Collectors;

/** The public face as the document tells it, and those rules of the language that can be seen from outside. */
public final class FaceTest {
    private static final Path DOCUMENT = Path.of("../shared/DOC.md");
    private static final Path SOURCE = Path.of("src/main/java/HuntingRudder.java");
    private static final Checks C = new Checks();

    public static void main(String[] args) throws IOException {
        faceOfTheDocument();
        nothingElseIsSeen();
        constants();
        classesInside();
        staticFields();
        sizes();
        wordsOfTheSource();
        methodsAreShort();
        C.end("FaceTest");
    }

    /** "every signature and the constant as they stand there": the lines of the document's Java block. */
    private static void faceOfTheDocument() throws IOException {
        Set<String> told = new TreeSet<>();
        for (String line : javaBlock(Files.readString(DOCUMENT))) {
            if (line.startsWith("    public ")) {
                told.add(withoutNames(line.strip()));
            }
        }
        Set<String> found = new TreeSet<>();
        for (Constructor<?> c : HuntingRudder.class.getConstructors()) {
            found.add(written(c, "public HuntingRudder"));
        }
        for (Method m : HuntingRudder.class.getDeclaredMethods()) {
            if (Modifier.isPublic(m.getModifiers())) {
                found.add(written(m, Modifier.toString(m.getModifiers()) + " " + m.getReturnType().getSimpleName() + " " + m.getName()));
            }
        }
        found.add("public static final int NONE = " + HuntingRudder.NONE + ";");
        C.due("26 members are told", told.size(), 26);
        C.due("the face is " + found + ", told is " + told, found.equals(told), true);
    }

    private static List<String> javaBlock(String page) {
        int from = page.indexOf("```java\n") + "```java\n".length();
        return List.of(page.substring(from, page.indexOf("```", from)).split("\n"));
    }

    /** A signature without the names of its parameters, which a class file does not keep. */
    private static String withoutNames(String line) {
        return line.replaceAll("int \\w+(?=[,)])", "int");
    }

    private static String written(Executable e, String head) {
        String parameters = Arrays.stream(e.getParameterTypes()).map(Class::getSimpleName).collect(Collectors.joining(", "));
        String thrown = Arrays.stream(e.getExceptionTypes()).map(Class::getSimpleName).collect(Collectors.joining(", "));
        return head + "(" + parameters + ")" + (thrown.isEmpty() ? "" : " throws " + thrown) + ";";
    }

    /** Rule 1: "no other public, protected or package-visible member, but for the classes inside it". */
    private static void nothingElseIsSeen() {
        Class<?> of = HuntingRudder.class;
        C.due("public and final", of.getModifiers(), Modifier.PUBLIC | Modifier.FINAL);
        C.due("no package, nothing above it", of.getPackageName().isEmpty() && of.getSuperclass() == Object.class, true);
        C.due("no interfaces", of.getInterfaces().length, 0);
        for (Field f : of.getDeclaredFields()) {
            C.due("private: " + f, Modifier.isPrivate(f.getModifiers()) || f.getName().equals("NONE"), true);
        }
        Set<String> face = new TreeSet<>();
        for (Method m : of.getDeclaredMethods()) {
            C.due("public or private: " + m, Modifier.isPublic(m.getModifiers()) != Modifier.isPrivate(m.getModifiers()), true);
            if (Modifier.isPublic(m.getModifiers())) {
                face.add(m.getName());
            }
        }
        C.due("names of the face", face.size(), 24);
        for (Class<?> c : all()) {
            for (Method m : c.getDeclaredMethods()) {
                C.due("no private method bears a name of the face: " + m, Modifier.isPrivate(m.getModifiers()) && face.contains(m.getName()), false);
            }
        }
    }

    private static void constants() {
        C.due("NONE", HuntingRudder.NONE, -1);
        for (Class<?> c : all()) {
            for (Constructor<?> made : c.getDeclaredConstructors()) {
                C.due("no constructor says that it throws: " + made, made.getExceptionTypes().length, 0);
            }
        }
    }

    private static List<Class<?>> all() {
        List<Class<?>> all = new ArrayList<>();
        all.add(HuntingRudder.class);
        all.addAll(Arrays.asList(HuntingRudder.class.getDeclaredClasses()));
        return all;
    }

    /** Rules 1 and 2: the classes inside are static and not seen from outside; rule 11: some twelve classes. */
    private static void classesInside() {
        List<Class<?>> all = all();
        C.due("at most twelve classes: " + all.size(), all.size() <= 12, true);
        for (Class<?> c : all.subList(1, all.size())) {
            C.due("static: " + c, Modifier.isStatic(c.getModifiers()), true);
            C.due("not public: " + c, Modifier.isPublic(c.getModifiers()) || Modifier.isProtected(c.getModifiers()), false);
            C.due("no classes inside it: " + c, c.getDeclaredClasses().length, 0);
        }
    }

    /** Rule 5: "Static fields are final: constants of int, long, boolean, char or String .. arrays of int, long, char or byte". */
    private static void staticFields() {
        Set<Class<?>> fine = Set.of(int.class, long.class, boolean.class, char.class, String.class, int[].class, long[].class, char[].class, byte[].class);
        for (Class<?> c : all()) {
            for (Field f : c.getDeclaredFields()) {
                if (Modifier.isStatic(f.getModifiers())) {
                    C.due("final and of such a type: " + f, Modifier.isFinal(f.getModifiers()) && fine.contains(f.getType()), true);
                }
            }
        }
    }

    /** Rule 11: seven parameters at most, some twenty fields beside the constants. */
    private static void sizes() {
        for (Class<?> c : all()) {
            long fields = Arrays.stream(c.getDeclaredFields()).filter(f -> !Modifier.isStatic(f.getModifiers())).count();
            C.due("fields of " + c + ": " + fields, fields <= 20, true);
            for (Method m : c.getDeclaredMethods()) {
                C.due("parameters of " + m, m.getParameterCount() <= 7, true);
            }
        }
    }

    /** Rules 2, 4, 6 and 13: what the source must not have; comments are left out. */
    private static void wordsOfTheSource() throws IOException {
        String source = Files.readString(SOURCE).replaceAll("(?s)/\\*.*?\\*/", " ").replaceAll("//[^\n]*", " ");
        String[] none = {"->", "::", "\\btry\\b", "\\bcatch\\b", "\\bfinally\\b", "\\bsynchronized\\b", "\\bassert\\b", "Exact\\b",
            "\\bpackage\\b", "\\bstatic\\s*\\{", "\\bThread\\b", "\\bSystem\\.(?!arraycopy\\b)", "\\bRandom\\b", "\\bpublic\\s+(?:static\\s+)?class\\b",
            "\\bprotected\\b", "\\bdouble\\b", "\\bfloat\\b", "\\bObject\\b", "\\bequals\\b", "\\bhashCode\\b", "\\btoString\\b"};
        for (String word : none) {
            C.due("no " + word, java.util.regex.Pattern.compile(word).matcher(source).find(), false);
        }
        List<String> imports = source.lines().filter(line -> line.startsWith("import ")).toList();
        C.due("imports: " + imports, imports.equals(List.of("import java.util.Arrays;", "import java.util.NoSuchElementException;")), true);
        C.due("two throws, both in row()", source.split("\\bthrow new ", -1).length - 1, 2);
    }

    /** Rule 11: "Methods stay short (some sixty lines)": from a line that opens one to the } of the same indent. */
    private static void methodsAreShort() throws IOException {
        List<String> lines = Files.readAllLines(SOURCE);
        int methods = 0;
        for (int k = 0; k < lines.size(); k++) {
            String line = lines.get(k);
            if (!line.matches(" +[a-zA-Z].*\\) (throws .*)?\\{") || line.matches(" +(if|for|while|switch|else|do)\\b.*")) {
                continue;
            }
            String end = " ".repeat(line.length() - line.stripLeading().length()) + "}";
            int to = k;
            while (to < lines.size() && !lines.get(to).equals(end)) {
                to++;
            }
            methods++;
            C.due("lines of" + line, to - k < 60, true);
        }
        C.due("methods were found: " + methods, methods > 100, true);
    }
}
