import java.lang.reflect.Constructor;
import java.lang.reflect.Field;
import java.lang.reflect.Method;
import java.lang.reflect.Modifier;
import java.nio.file.Files;
import java.nio.file.Path;
import java.util.ArrayList;
import java.util.Arrays;
import java.util.List;
import java.util.Set;
import java.util.TreeSet;

/** The face of the class, and what of LANGUAGE.md can be seen without reading it. */
public final class FaceTests {
    private static final Checks checks = new Checks();

    private static final List<String> FACE = List.of(
        "int feed(long,long,long)", "int realm()", "int sundays()", "int writer(int,int)", "int word(int,int)", "int strip(int)",
        "int spike(int,int)", "int write(int)", "int pass()", "int burn(int)", "boolean undo()", "int judged(int)", "int comes(int)",
        "int best(int)", "int worst()", "int mean()", "int aim(int,int)", "int meet(int,int,int)", "int clashes()", "int fire()",
        "boolean read(int)", "int began()", "int sure()", "int ask()", "int spent()", "int rests(int,int,int,int)",
        "int generations(int,int,int)", "boolean mark(int,boolean)", "int count(int)");

    private static String told(Method m) {
        StringBuilder b = new StringBuilder(m.getReturnType().getSimpleName()).append(' ').append(m.getName()).append('(');
        for (int i = 0; i < m.getParameterCount(); i++) {
            b.append(i == 0 ? "" : ",").append(m.getParameterTypes()[i].getSimpleName());
        }
        return b.append(')').toString();
    }

    private static void face() {
        Class<?> c = FoldedRealm.class;
        checks.due("public final", Modifier.isPublic(c.getModifiers()) && Modifier.isFinal(c.getModifiers()), true);
        Set<String> open = new TreeSet<>();
        Set<String> names = new TreeSet<>();
        for (Method m : c.getDeclaredMethods()) {
            if (!Modifier.isPrivate(m.getModifiers()) && !m.isSynthetic()) {
                open.add(told(m));
                names.add(m.getName());
                checks.due(m + " is an object's", Modifier.isStatic(m.getModifiers()), false);
            }
        }
        checks.due("methods " + open, open.equals(new TreeSet<>(FACE)), true);
        for (Field f : c.getDeclaredFields()) {
            checks.due("hidden " + f, Modifier.isPrivate(f.getModifiers()), !f.getName().equals("NONE"));
        }
        for (Constructor<?> k : c.getDeclaredConstructors()) {
            checks.due("constructor " + k, Modifier.isPublic(k.getModifiers()) && k.getParameterCount() == 0, true);
        }
        for (Class<?> inner : c.getDeclaredClasses()) {
            checks.due("static " + inner, Modifier.isStatic(inner.getModifiers()) && !Modifier.isPublic(inner.getModifiers()), true);
            for (Method m : inner.getDeclaredMethods()) {
                checks.due("no name of the face: " + m, names.contains(m.getName()), false);
                checks.due("seven parameters: " + m, m.getParameterCount() <= 7, true);
            }
        }
        checks.due("some twelve classes", c.getDeclaredClasses().length <= 12, true);
    }

    private static boolean isNumberOrText(Class<?> type) {
        return type == String.class || (type.isPrimitive() && type != double.class && type != float.class);
    }

    /** Rule 5: no static state; rules 3 and 11: what an object holds. */
    private static void fields() {
        List<Class<?>> all = new ArrayList<>(List.of(FoldedRealm.class));
        all.addAll(List.of(FoldedRealm.class.getDeclaredClasses()));
        for (Class<?> c : all) {
            int held = 0;
            for (Field f : c.getDeclaredFields()) {
                if (Modifier.isStatic(f.getModifiers())) {
                    boolean kept = f.getType().isArray() && f.getType().getComponentType().isEnum();
                    checks.due("final " + f, Modifier.isFinal(f.getModifiers()), true);
                    checks.due("a constant " + f, f.isEnumConstant() || kept || isNumberOrText(f.getType()), true);
                } else {
                    held++;
                    checks.due("of an enum " + f, !c.isEnum() || isNumberOrText(f.getType()), true);
                    checks.due("of one dimension " + f, f.getType().getName().startsWith("[["), false);
                }
            }
            checks.due("some twenty fields " + c, held <= 20, true);
        }
    }

    /** Rule 11: methods stay short; by how this file is laid out a member ends where its brace does. */
    private static void lengths(String text) {
        String[] lines = text.split("\n");
        for (int i = 0; i < lines.length; i++) {
            boolean begins = lines[i].matches(" {4}( {4})?[A-Za-z].*\\).* \\{") && !lines[i].contains(" class ");
            if (begins) {
                String end = lines[i].substring(0, lines[i].length() - lines[i].stripLeading().length()) + "}";
                int last = i;
                while (last < lines.length && !lines[last].equals(end)) {
                    last++;
                }
                checks.due("some sixty lines from " + (i + 1), last - i < 60, true);
            }
        }
    }

    private static void source() throws Exception {
        String text = Files.readString(Path.of("src/main/java/FoldedRealm.java"));
        for (String barred : List.of("->", "::", "catch", "finally", "synchronized", "assert ", "instanceof", "package ", "Exact(", "System.out")) {
            checks.due("no " + barred, text.contains(barred), false);
        }
        lengths(text);
        for (String line : text.split("\n")) {
            if (line.startsWith("import")) {
                checks.due(line, Arrays.asList("import java.util.NoSuchElementException;").contains(line), true);
            }
            for (int i = 0; i < line.length(); i++) {
                checks.due("plain signs: " + line, line.charAt(i) < 127, true);
            }
        }
    }

    public static void main(String[] args) throws Exception {
        face();
        fields();
        source();
        checks.end();
    }
}
