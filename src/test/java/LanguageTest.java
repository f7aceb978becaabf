import java.io.IOException;
import java.lang.reflect.Constructor;
import java.lang.reflect.Field;
import java.lang.reflect.Method;
import java.lang.reflect.Modifier;
import java.nio.file.Files;
import java.nio.file.Path;
import java.util.ArrayList;
import java.util.Arrays;
import java.util.List;
import java.util.Set;
import java.util.TreeSet;
import java.util.regex.Matcher;
import java.util.regex.Pattern;

/** The face of the document, and those rules of LANGUAGE.md that can be read from the program. */
public final class LanguageTest {
    private static final String FACE = """
        public int append(int,int,int,int,int)
        public int parse(int) throws IllegalArgumentException
        public int size(int) throws IllegalArgumentException
        public int piece(int,int) throws IndexOutOfBoundsException,IllegalArgumentException
        public int pieceAt(int)
        public int whyNot(int,int,int,int,boolean) throws IndexOutOfBoundsException,IllegalArgumentException
        public int places(int) throws IndexOutOfBoundsException
        public int seams(int,int,boolean) throws IndexOutOfBoundsException
        public int matches()
        public int inner()
        public int loop(int,int) throws NoSuchElementException,IllegalArgumentException
        public int edge(int,int,int) throws NoSuchElementException,IllegalArgumentException
        public double perimeter()
        public float fullness()
        public int looks()
        public boolean isSimple()
        public int shape(int,int) throws IndexOutOfBoundsException,IllegalArgumentException
        public boolean hasQuarter(int,int) throws IndexOutOfBoundsException
        public int alike(int) throws IndexOutOfBoundsException
        public int find()
        public int kinds()
        public int missing(int) throws IndexOutOfBoundsException
        public int ways(int) throws IndexOutOfBoundsException
        public int firstWay(int,int,int) throws IndexOutOfBoundsException,IllegalArgumentException
        public int place(int,int,int,int,boolean) throws IndexOutOfBoundsException,IllegalArgumentException
        public boolean takeOff(int) throws IndexOutOfBoundsException
        public int turn(int) throws IndexOutOfBoundsException
        public int flip(int) throws IndexOutOfBoundsException
        public boolean shift(int,int)
        public int keep()
        public int remove(int) throws IndexOutOfBoundsException
        public boolean solve(int) throws IndexOutOfBoundsException
        public int undo()
        public boolean saveSnapshot(int) throws IllegalArgumentException
        public int restoreSnapshot(int) throws IllegalArgumentException,IllegalStateException
        public long checksum()
        """;
    private static final List<String> IMPORTS = List.of("java.util.ArrayList", "java.util.Arrays",
        "java.util.Iterator", "java.util.List", "java.util.NoSuchElementException");
    private static final List<String> FORBIDDEN = List.of("->", "::", "\\bcatch\\b", "\\btry\\b", "\\bfinally\\b",
        "\\bsynchronized\\b", "\\bassert\\b", "Exact\\(", "\\bhashCode\\b", "\\btoString\\b", "\\bSystem\\.(?!arraycopy)",
        "\\bThread\\b", "\\brandom\\b", "\\bjava\\.(?!util)", "\\bString\\.", "static \\{", "\\bDouble\\b", "\\bFloat\\b",
        "while \\(true\\)", "for \\(;;\\)", "[^ -~\\n]");

    private final Checks checks = new Checks();

    public static void main(String[] args) throws IOException {
        LanguageTest test = new LanguageTest();
        test.face();
        test.members();
        test.text(Files.readString(Path.of("src/main/java/TangramBoard.java")));
        test.checks.end();
    }

    private static String names(Class<?>[] types) {
        List<String> names = new ArrayList<>();
        for (Class<?> type : types) {
            names.add(type.getSimpleName());
        }
        return String.join(",", names);
    }

    private void face() {
        Set<String> got = new TreeSet<>();
        for (Method m : TangramBoard.class.getDeclaredMethods()) {
            if (!Modifier.isPrivate(m.getModifiers()) && !m.isSynthetic()) {
                String thrown = names(m.getExceptionTypes());
                got.add(Modifier.toString(m.getModifiers()) + " " + m.getReturnType() + " " + m.getName() + "("
                    + names(m.getParameterTypes()) + ")" + (thrown.isEmpty() ? "" : " throws " + thrown));
            }
        }
        checks.due("the face", got, new TreeSet<>(Arrays.asList(FACE.strip().split("\n"))));
        for (Field f : TangramBoard.class.getDeclaredFields()) {
            boolean isPrivate = Modifier.isPrivate(f.getModifiers()) || f.isSynthetic();
            checks.due(f.getName() + " is private", isPrivate, !f.getName().equals("NONE"));
        }
        for (Constructor<?> c : TangramBoard.class.getDeclaredConstructors()) {
            checks.due("the constructor", c.toString(), "public TangramBoard()");
        }
        checks.due("the class", Modifier.toString(TangramBoard.class.getModifiers()), "public final");
    }

    private void members() {
        Set<String> publicNames = new TreeSet<>();
        for (Method m : TangramBoard.class.getMethods()) {
            if (m.getDeclaringClass() == TangramBoard.class) {
                publicNames.add(m.getName());
            }
        }
        List<Class<?>> classes = new ArrayList<>(List.of(TangramBoard.class));
        classes.addAll(Arrays.asList(TangramBoard.class.getDeclaredClasses()));
        checks.due("at most twelve classes", classes.size() <= 12, true);
        for (Class<?> c : classes) {
            int fields = 0;
            for (Field f : c.getDeclaredFields()) {
                if (Modifier.isStatic(f.getModifiers())) {
                    checks.due(f + " is final", Modifier.isFinal(f.getModifiers()), true);
                } else {
                    fields++;
                }
            }
            checks.due(c + " has at most twenty fields", fields <= 20, true);
            for (Method m : c.getDeclaredMethods()) {
                checks.due(m + " has at most seven parameters", m.getParameterCount() <= 7, true);
                boolean isTwice = publicNames.contains(m.getName())
                    && (c != TangramBoard.class || Modifier.isPrivate(m.getModifiers()));
                checks.due(m + " bears the name of a public method", isTwice, false);
            }
            if (c != TangramBoard.class) {
                checks.due(c + " is static", Modifier.isStatic(c.getModifiers()), true);
                checks.due(c + " is private", Modifier.isPrivate(c.getModifiers()), true);
            }
        }
    }

    private void text(String source) {
        Matcher imports = Pattern.compile("(?m)^import (.*);").matcher(source);
        while (imports.find()) {
            checks.due("import " + imports.group(1), IMPORTS.contains(imports.group(1)), true);
        }
        String code = source.replaceAll("(?s)/\\*.*?\\*/", "").replaceAll("//[^\n]*", "")
            .replaceAll("\"[^\"\n]*\"", "\"\"");
        for (String word : FORBIDDEN) {
            checks.due("the code has " + word, Pattern.compile(word).matcher(code).find(), false);
        }
        lengths(source.split("\n"));
    }

    /** Methods begin and end at an indentation of 4 in the outer class, of 8 in the classes inside. */
    private void lengths(String[] lines) {
        int[] begins = {0, 0};
        for (int i = 0; i < lines.length; i++) {
            checks.due("line " + (i + 1) + " has at most 120 signs", lines[i].length() <= 120, true);
            for (int level = 0; level < 2; level++) {
                String indent = level == 0 ? " {4}" : " {8}";
                if (lines[i].matches(indent + "\\S.*[{)]")) {
                    boolean isMethod = !lines[i].matches(" *private (static final class|enum) .*");
                    begins[level] = isMethod ? i : lines.length;
                } else if (lines[i].matches(indent + "\\}")) {
                    checks.due("the method that ends at line " + (i + 1) + " is short", i - begins[level] < 60, true);
                }
            }
        }
    }
}
