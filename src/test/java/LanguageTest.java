import java.lang.reflect.Constructor;
import java.lang.reflect.Field;
import java.lang.reflect.Member;
import java.lang.reflect.Method;
import java.lang.reflect.Modifier;
import java.nio.file.Files;
import java.nio.file.Path;
import java.util.ArrayList;
import java.util.Collections;
import java.util.List;
import java.util.regex.Pattern;

/** The document's face, and those rules of LANGUAGE.md that can be looked at from outside. */
public final class LanguageTest {
    private static final Check C = new Check();
    private static final String[] FACE = {
        "int book(int, int, int, int)", "int ofSlip(int, int)", "int want(int, int)", "int see(int, int)",
        "int ask(int)", "int wet(int)", "int dry(int)", "int leads(int)", "int years(int, int, int, int, int)",
        "int rings(int)", "int cuts()", "int tree(int)", "int orders(int, int, int, int, int)",
        "int reading(int, int)", "int back(int)", "int pages(int, int)", "int kinds(int)", "int seen(int)",
        "long odds(int, int)", "int sheet(int, int, int)", "int lose(int)", "int put(int, int, int)",
        "long cell(int, int, int)", "int copy(int, int, int, int, int)", "int tell(int)", "int quote(int)",
        "int as(int, int)", "int trace()", "int fault()", "int many(int)"};
    private static final String[] CONSTANTS = {
        "int UNKNOWN", "int OUTSIDE", "int STATE", "int FULL", "int NONE", "long LOST"};

    public static void main(String[] args) throws Exception {
        face();
        membersAndClasses();
        source();
        nothingIsMadeByCalls();
        C.end();
    }

    private static String told(Method m) {
        StringBuilder s = new StringBuilder();
        s.append(m.getReturnType().getSimpleName()).append(' ').append(m.getName()).append('(');
        for (int p = 0; p < m.getParameterCount(); p++) {
            s.append(p == 0 ? "" : ", ").append(m.getParameterTypes()[p].getSimpleName());
        }
        return s.append(')').toString();
    }

    private static void same(String what, List<String> got, String[] want) {
        List<String> due = new ArrayList<>(List.of(want));
        Collections.sort(due);
        Collections.sort(got);
        C.holds(what + ": " + got, got.equals(due));
    }

    private static void face() throws Exception {
        int modifiers = WorldIndex.class.getModifiers();
        C.holds("the class is public and final", Modifier.isPublic(modifiers) && Modifier.isFinal(modifiers));
        List<String> methods = new ArrayList<>();
        for (Method m : WorldIndex.class.getDeclaredMethods()) {
            if (!Modifier.isPrivate(m.getModifiers())) {
                methods.add(told(m));
                C.holds("public, of an object: " + m, m.getModifiers() == Modifier.PUBLIC);
            }
        }
        same("methods", methods, FACE);
        List<String> constants = new ArrayList<>();
        for (Field f : WorldIndex.class.getDeclaredFields()) {
            if (!Modifier.isPrivate(f.getModifiers())) {
                constants.add(f.getType().getSimpleName() + " " + f.getName());
                C.holds("a public constant: " + f,
                    f.getModifiers() == (Modifier.PUBLIC | Modifier.STATIC | Modifier.FINAL));
            }
        }
        same("constants", constants, CONSTANTS);
        Constructor<?>[] made = WorldIndex.class.getDeclaredConstructors();
        C.holds("one constructor, public, of nothing",
            made.length == 1 && made[0].getModifiers() == Modifier.PUBLIC && made[0].getParameterCount() == 0);
    }

    private static void membersAndClasses() {
        List<String> names = new ArrayList<>();
        for (String f : FACE) {
            names.add(f.substring(f.indexOf(' ') + 1, f.indexOf('(')));
        }
        List<Class<?>> all = new ArrayList<>(List.of(WorldIndex.class.getDeclaredClasses()));
        C.holds("at most twelve classes", all.size() < 12);
        for (Class<?> c : all) {
            C.holds("static: " + c, Modifier.isStatic(c.getModifiers()) && !Modifier.isPublic(c.getModifiers()));
        }
        all.add(WorldIndex.class);
        for (Class<?> c : all) {
            int fields = 0;
            for (Field f : c.getDeclaredFields()) {
                boolean isStatic = Modifier.isStatic(f.getModifiers());
                C.holds("a static field is final: " + f, !isStatic || Modifier.isFinal(f.getModifiers()));
                fields += isStatic ? 0 : 1;
            }
            C.holds("at most twenty fields: " + c, fields <= 20);
            for (Method m : c.getDeclaredMethods()) {
                C.holds("at most seven parameters: " + m, m.getParameterCount() <= 7);
                boolean ofFace = c == WorldIndex.class && Modifier.isPublic(((Member) m).getModifiers());
                C.holds("no other method of the face's names: " + m, ofFace || !names.contains(m.getName()));
            }
        }
    }

    /** All calls of a run live in one room, so all rows are made with the object, and used again. */
    private static void nothingIsMadeByCalls() throws Exception {
        boolean constructing = false;
        for (String line : Files.readAllLines(Path.of("src/main/java/WorldIndex.java"))) {
            if (line.startsWith("    public WorldIndex()")) {
                constructing = true;
            } else if (line.equals("    }")) {
                constructing = false;
            }
            boolean makes = Pattern.compile("\\bnew [A-Za-z]+[(\\[]").matcher(line).find();
            boolean field = line.trim().startsWith("private final ");
            C.holds("made with the object: " + line, !makes || field || constructing);
        }
    }

    private static void source() throws Exception {
        String source = Files.readString(Path.of("src/main/java/WorldIndex.java"));
        for (int i = 0; i < source.length(); i++) {
            if (source.charAt(i) > 126) {
                C.holds("plain signs alone, at " + i, false);
            }
        }
        String code = source.replaceAll("(?s)/\\*.*?\\*/", "").replaceAll("//[^\n]*", "");
        String[] no = {"throw", "throws", "try", "catch", "finally", "synchronized", "assert", "import", "package",
            "Object", "Exception", "Random", "System\\.(?!arraycopy)", "Thread", "Scanner", "\\w*Exact", "->", "::",
            "equals", "hashCode", "toString", "instanceof", "double", "float", "while", "protected", "volatile"};
        for (String word : no) {
            String pattern = Character.isLetter(word.charAt(0)) ? "\\b" + word + (word.endsWith(")") ? "" : "\\b") : word;
            C.holds("no '" + word + "'", !Pattern.compile(pattern).matcher(code).find());
        }
    }
}
