import java.io.IOException;
import java.lang.reflect.Constructor;
import java.lang.reflect.Field;
import java.lang.reflect.Method;
import java.lang.reflect.Modifier;
import java.nio.file.Files;
import java.nio.file.Path;
import java.util.HashSet;
import java.util.Set;
import java.util.TreeSet;
import java.util.regex.Matcher;
import java.util.regex.Pattern;

/** Rules of LANGUAGE.md that can be read off the source or the class; it is run from the project's root. */
public final class LanguageTest {
    private static final Check check = new Check("LanguageTest");

    public static void main(String[] args) throws IOException {
        String source = Files.readString(Path.of("src/main/java/SaltLines.java"));
        String document = Files.readString(Path.of("../shared/DOC.md"));
        String code = source.replaceAll("(?s)/\\*.*?\\*/", " ").replaceAll("//[^\n]*", " ");
        noForbiddenWords(code);
        onlyTheListedLibrary(code);
        methodsAreShort(code);
        faceIsTheDocuments(document);
        nothingElseIsSeen();
        headingsOfTheFace(source, document);
        classesAreSmall();
        check.end();
    }

    private static void noForbiddenWords(String code) {
        String[] words = {"\\bthrows?\\b", "\\btry\\b", "\\bcatch\\b", "\\bfinally\\b", "\\bsynchronized\\b", "\\bassert\\b", "->", "::",
            "Exact\\b", "\\bpackage\\b", "\\bprotected\\b", "\\bvar\\b", "\\bObject\\b", "\\bvalues\\(", "\\.\\.\\.", "\"", "\\bstatic \\{"};
        for (String word : words) check.isTrue("no " + word, !Pattern.compile(word).matcher(code).find());
    }

    private static void onlyTheListedLibrary(String code) {
        Matcher imports = Pattern.compile("import ([\\w.]+);").matcher(code);
        while (imports.find()) check.isTrue("import " + imports.group(1), imports.group(1).equals("java.util.Arrays"));
        Matcher used = Pattern.compile("\\b(Arrays|Math|Integer|Long|System)\\.(\\w+)").matcher(code);
        Set<String> listed = Set.of("Arrays.fill", "Math.min", "Math.max", "Math.floorMod", "Integer.bitCount", "Integer.signum");
        while (used.find()) check.isTrue("library " + used.group(), listed.contains(used.group()));
    }

    private static void methodsAreShort(String code) {
        String[] lines = code.split("\n");
        int start = -1;
        for (int i = 0; i < lines.length; i++) {
            if (lines[i].matches("\\s+(public |private |static |final )*\\w+(\\[\\])? \\w+\\(.*\\) \\{")) start = i;
            if (start >= 0 && lines[i].matches("( {4}| {8})\\}")) {
                check.isTrue("short: " + lines[start].trim(), i - start <= 60);
                start = -1;
            }
        }
    }

    private static void faceIsTheDocuments(String document) {
        Set<String> want = new TreeSet<>();
        Matcher face = Pattern.compile("    public (int \\w+\\([^)]*\\));").matcher(document);
        while (face.find()) want.add(face.group(1).replaceAll("(int|boolean) \\w+([,)])", "$1$2").replace(", ", ","));
        Set<String> got = new TreeSet<>();
        Set<String> names = new HashSet<>();
        for (Method method : SaltLines.class.getDeclaredMethods()) {
            if (Modifier.isPrivate(method.getModifiers())) continue;
            names.add(method.getName());
            got.add(method.toString().replaceAll("public (final )?", "").replace("SaltLines.", ""));
        }
        check.isTrue("methods of the face: " + got + " are " + want, got.equals(want));
        check.due("calls of the face", got.size(), 40);
        for (Class<?> inside : SaltLines.class.getDeclaredClasses()) privateNames(inside, names);
        privateNames(SaltLines.class, names);
        for (Constructor<?> made : SaltLines.class.getDeclaredConstructors()) {
            check.isTrue("constructor " + made, Modifier.isPublic(made.getModifiers()) && made.getParameterCount() == 0);
        }
        Set<String> constants = Set.of("NONE", "UNKNOWN", "OUTSIDE", "NOT", "FULL");
        for (Field field : SaltLines.class.getDeclaredFields()) {
            check.isTrue("field " + field, Modifier.isPrivate(field.getModifiers()) != constants.contains(field.getName()));
        }
    }

    /** Forty calls and five constants of int, all public; no class inside and nothing inherited shows from outside. */
    private static void nothingElseIsSeen() {
        for (Method method : SaltLines.class.getDeclaredMethods()) {
            int flags = method.getModifiers();
            check.isTrue(method + " is public or private", Modifier.isPublic(flags) || Modifier.isPrivate(flags));
            if (Modifier.isPublic(flags)) check.isTrue(method + " is a call of an object", !Modifier.isStatic(flags) && method.getReturnType() == int.class);
        }
        check.due("public constructors", SaltLines.class.getConstructors().length, 1);
        check.due("public constants", SaltLines.class.getFields().length, 5);
        for (Field field : SaltLines.class.getFields()) {
            int flags = field.getModifiers();
            check.isTrue(field + " is a constant of int", Modifier.isStatic(flags) && Modifier.isFinal(flags) && field.getType() == int.class);
        }
        check.due("public classes inside", SaltLines.class.getClasses().length, 0);
        check.isTrue("no class above it, no interface", SaltLines.class.getSuperclass() == Object.class && SaltLines.class.getInterfaces().length == 0);
    }

    /** The document's headings stand in the source, each behind the calls ahead of it and ahead of its own, in their order. */
    private static void headingsOfTheFace(String source, String document) {
        Matcher heading = Pattern.compile("Ahead of the calls (.*) the interface says: ---- ([^.]*)\\.").matcher(document);
        int at = 0;
        int headings = 0;
        while (heading.find()) {
            int next = source.indexOf("// ---- " + heading.group(2) + "\n", at);
            check.isTrue("---- " + heading.group(2), next > at);
            at = next;
            for (String call : heading.group(1).replace("`", "").split(", ")) {
                next = source.indexOf("public int " + call + "(", at);
                check.isTrue("behind ---- " + heading.group(2) + ": " + call, next > at);
                at = next;
            }
            headings++;
        }
        check.due("headings of the face", headings, 5);
    }

    private static void privateNames(Class<?> of, Set<String> names) {
        for (Method method : of.getDeclaredMethods()) {
            boolean face = of == SaltLines.class && !Modifier.isPrivate(method.getModifiers());
            check.isTrue(method + " has a name of its own", face || !names.contains(method.getName()));
            check.isTrue(method + " takes seven at most", method.getParameterCount() <= 7);
        }
    }

    private static void classesAreSmall() {
        Class<?>[] inside = SaltLines.class.getDeclaredClasses();
        check.isTrue("twelve classes at most", inside.length + 1 <= 12);
        check.isTrue("public and final", (SaltLines.class.getModifiers() & (Modifier.PUBLIC | Modifier.FINAL)) == (Modifier.PUBLIC | Modifier.FINAL));
        for (Class<?> c : inside) {
            check.isTrue(c + " is private and static", Modifier.isPrivate(c.getModifiers()) && Modifier.isStatic(c.getModifiers()));
            int fields = 0;
            for (Field field : c.getDeclaredFields()) {
                if (!Modifier.isStatic(field.getModifiers())) fields++;
                check.isTrue(field + ": static ones are final", !Modifier.isStatic(field.getModifiers()) || Modifier.isFinal(field.getModifiers()));
            }
            check.isTrue(c + " has twenty fields at most", fields <= 20);
        }
    }
}
