import java.io.IOException;
import java.io.UncheckedIOException;
import java.lang.reflect.Constructor;
import java.lang.reflect.Field;
import java.lang.reflect.Method;
import java.lang.reflect.Modifier;
import java.nio.file.Files;
import java.nio.file.Path;
import java.util.List;
import java.util.TreeSet;
import java.util.regex.Matcher;
import java.util.regex.Pattern;

/** The public face, and the rules of the language that can be seen from the source. */
final class SourceTests {
    private static final Path SOURCE = Path.of("src/main/java/TunnelLamps.java");

    private static final Path DOCUMENT = Path.of("../shared/DOC.md");

    private static final String FACE = "about(int) append(int) bestCell(int,int,int) clearText() darkIn(int)"
            + " depthIn(int,int) doneIn() drop(int) errorPosition() fill(int,int) gallery(int) galleryOf(int,int)"
            + " hang(int,int,int) hours(int) lad(int) lamp(int,int,int,int) lampOf(int,int) lit(int,int) load()"
            + " miner(int,int) minerOf(int,int) orderOf(int,int) restore(int) runScript(int,long) save(int)"
            + " send(int,int) set(int,int) simulate(long,int) steps(int,int,int,int) store(int) undo()";

    private SourceTests() { }

    static void addTo(List<Check.Test> tests) {
        tests.add(new Check.Test("rule 1: the face", SourceTests::face));
        tests.add(new Check.Test("The public face: each row of it stands in the source", SourceTests::rows));
        tests.add(new Check.Test("rule 1: nothing else can be seen", SourceTests::nothingElse));
        tests.add(new Check.Test("rules 2 to 13: words that are not to be used", SourceTests::words));
        tests.add(new Check.Test("rule 5: static fields are final", SourceTests::staticFields));
        tests.add(new Check.Test("rule 11: short methods, few fields", SourceTests::sizes));
    }

    private static void face() {
        TreeSet<String> found = new TreeSet<>();
        for (Method method : TunnelLamps.class.getDeclaredMethods()) {
            if (Modifier.isPublic(method.getModifiers())) {
                Check.same(method + " answers", "int", method.getReturnType().getName());
                StringBuilder types = new StringBuilder();
                for (Class<?> type : method.getParameterTypes()) {
                    types.append(types.length() == 0 ? "" : ",").append(type.getName());
                }
                found.add(method.getName() + "(" + types + ")");
            }
        }
        Check.same("methods", FACE, String.join(" ", found));
        Check.equal("public constructors", 1, TunnelLamps.class.getConstructors().length);
        Check.equal("public constants", 1, TunnelLamps.class.getFields().length);
        int modifiers = TunnelLamps.class.getModifiers();
        Check.equal("public and final", Modifier.PUBLIC | Modifier.FINAL, modifiers);
    }

    /** With the names of the arguments and all exceptions, which the compiled class does not tell. */
    private static void rows() {
        String document = read(DOCUMENT);
        String block = document.substring(document.indexOf("```java") + 7);
        String source = read(SOURCE).replaceAll("\\s+", " ");
        int rows = 0;
        for (String line : block.substring(0, block.indexOf("```")).split("\n")) {
            String row = line.trim();
            if (!row.isEmpty() && !row.equals("}")) {
                String due = row.endsWith(");") || row.contains(") throws ") ? row.replace(";", " {") : row;
                Check.equal("times that the source has: " + due, 1, source.split(Pattern.quote(due), -1).length - 1);
                rows++;
            }
        }
        Check.equal("rows", 34, rows);
    }

    private static void nothingElse() {
        TreeSet<String> names = new TreeSet<>();
        for (Method method : TunnelLamps.class.getMethods()) {
            names.add(method.getName());
        }
        for (Method method : TunnelLamps.class.getDeclaredMethods()) {
            isPublicOrPrivate(method.toString(), method.getModifiers());
            if (Modifier.isPrivate(method.getModifiers()) && names.contains(method.getName())) {
                throw new AssertionError("a private method bears the name of a public one: " + method);
            }
        }
        for (Field field : TunnelLamps.class.getDeclaredFields()) {
            isPublicOrPrivate(field.toString(), field.getModifiers());
        }
        for (Constructor<?> constructor : TunnelLamps.class.getDeclaredConstructors()) {
            isPublicOrPrivate(constructor.toString(), constructor.getModifiers());
        }
        for (Class<?> inside : TunnelLamps.class.getDeclaredClasses()) {
            int seen = inside.getModifiers() & (Modifier.PUBLIC | Modifier.PROTECTED);
            Check.equal(inside + " is private or package-visible", 0, seen);
            Check.equal(inside + " is static", 1, Modifier.isStatic(inside.getModifiers()) ? 1 : 0);
        }
    }

    private static void isPublicOrPrivate(String name, int modifiers) {
        if (!Modifier.isPublic(modifiers) && !Modifier.isPrivate(modifiers)) {
            throw new AssertionError("neither public nor private: " + name);
        }
    }

    private static void words() {
        String source = read(SOURCE).replaceAll("\"[^\"]*\"", "\"\"").replaceAll("/\\*\\*.*?\\*/|//[^\n]*", "")
                .replaceAll("(case [^>:]*|default) *->", "");
        for (String word : new String[] {"->", "::", "\\bimport (?!java\\.util\\.)", "\\bpackage\\b", "\\bfinally\\b",
            "\\bassert\\b", "\\bsynchronized\\b", "\\bSystem\\.(?!arraycopy)", "\\bRandom\\b", "\\bThread\\b",
            "\"\\s*\\+", "\\+\\s*\"", "Exact\\b", "\\bhashCode\\b", "\\bgetMessage\\b",
            "catch *\\([^)]*\\b(Throwable|Exception|RuntimeException|ArrayIndex\\w+|NullPointer\\w+|ClassCast\\w+)\\b",
            "catch *\\([^)]*\\b(NegativeArray\\w+|ArrayStore\\w+|ArithmeticException)\\b"}) {
            Matcher matcher = Pattern.compile(word).matcher(source);
            if (matcher.find()) {
                throw new AssertionError("the source has " + matcher.group());
            }
        }
    }

    private static void staticFields() {
        for (Class<?> inside : TunnelLamps.class.getDeclaredClasses()) {
            staticFieldsOf(inside);
        }
        staticFieldsOf(TunnelLamps.class);
    }

    private static void staticFieldsOf(Class<?> type) {
        int ownFields = 0;
        for (Field field : type.getDeclaredFields()) {
            if (Modifier.isStatic(field.getModifiers())) {
                Check.equal(field + " is final", 1, Modifier.isFinal(field.getModifiers()) ? 1 : 0);
            } else {
                ownFields++;
            }
        }
        Check.equal(type + " has at most twenty fields", 1, ownFields <= 20 ? 1 : 0);
    }

    private static void sizes() {
        Check.equal("at most twelve classes", 1, TunnelLamps.class.getDeclaredClasses().length <= 11 ? 1 : 0);
        int start = -1;
        String indent = "";
        String[] lines = read(SOURCE).split("\n");
        for (int i = 0; i < lines.length; i++) {
            Matcher head = Pattern.compile("( {4}| {8})[^ /*}@].*\\{").matcher(lines[i]);
            if (head.matches() && !lines[i].contains(" class ")) {
                start = i;
                indent = head.group(1);
            } else if (lines[i].equals(indent + "}") && start >= 0) {
                Check.equal("lines of the method at line " + (start + 1), 1, i - start < 60 ? 1 : 0);
                start = -1;
            }
        }
    }

    private static String read(Path file) {
        try {
            return Files.readString(file);
        } catch (IOException fault) {
            throw new UncheckedIOException(fault);
        }
    }
}
