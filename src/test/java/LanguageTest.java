import java.io.IOException;
import java.lang.reflect.Array;
import java.lang.reflect.Field;
import java.lang.reflect.Member;
import java.lang.reflect.Method;
import java.lang.reflect.Modifier;
import java.nio.file.Files;
import java.nio.file.Path;
import java.util.ArrayDeque;
import java.util.ArrayList;
import java.util.Arrays;
import java.util.Collections;
import java.util.Deque;
import java.util.IdentityHashMap;
import java.util.List;
import java.util.Set;
import java.util.TreeSet;
import java.util.regex.Matcher;
import java.util.regex.Pattern;

/** The face of the document, some rules of LANGUAGE.md that can be seen from outside, and the room that an object takes. */
public final class LanguageTest {
    private static final String FACE = """
            int person(int, int, int, int)
            int lives(int, boolean, boolean)
            int fear(int, int)
            int die(int)
            int personIs(int, int)
            int field(int, int, boolean)
            int fieldIs(int, int)
            int heirs(int)
            int share(int, int)
            int paper(int, int, int, int, int)
            int as(int, int)
            int word(int, int)
            int pay(int, int)
            int annul(int)
            int paperIs(int, int)
            int shift(int, int)
            int left(int, int)
            int feed(int, long)
            int text(int)
            int force(int, int, int)
            int law(int, int)
            int falls(int, int, int)
            int truly(int, int, int)
            int back(int, int, int)
            int dress(int, int, int)
            int price(int, int)
            int year(int)
            int years(int)
            int chain(int)
            int last(int, int, int, int)
            int pays(int, int, int, int, int)
            int proves(int, int, int, int)
            int sheet(int, int, int)
            int put(int, int, int)
            int copy(int, int, int, int, int)
            int image()
            int restore()
            int count(int)
            """;

    public static void main(String[] args) throws IOException, IllegalAccessException {
        face();
        classes();
        source();
        room();
        Check.end();
    }

    private static void face() {
        Set<String> due = new TreeSet<>(Arrays.asList(FACE.strip().split("\n")));
        Set<String> publicNames = new TreeSet<>();
        Set<String> got = new TreeSet<>();
        for (Method m : DebtYear.class.getDeclaredMethods()) {
            if (Modifier.isPublic(m.getModifiers())) {
                List<String> types = new ArrayList<>();
                for (Class<?> t : m.getParameterTypes()) {
                    types.add(t.getName());
                }
                got.add(m.getReturnType() + " " + m.getName() + "(" + String.join(", ", types) + ")");
                publicNames.add(m.getName());
            }
        }
        yes("the face is " + got, got.equals(due));
        yes("final and public", Modifier.isFinal(DebtYear.class.getModifiers()) && Modifier.isPublic(DebtYear.class.getModifiers()));
        yes("one constructor", DebtYear.class.getConstructors().length == 1 && DebtYear.class.getDeclaredConstructors().length == 1);
        for (Class<?> c : all()) {
            for (Method m : c.getDeclaredMethods()) {
                boolean isFace = c == DebtYear.class && Modifier.isPublic(m.getModifiers());
                yes(c + " has " + m.getName(), isFace || !publicNames.contains(m.getName()));
                yes(m + " is hidden", isFace || c != DebtYear.class || hidden(m));
                yes(m + " takes seven at most", m.getParameterCount() <= 7);
            }
        }
        for (Field f : DebtYear.class.getDeclaredFields()) {
            yes(f + " is hidden", hidden(f));
        }
    }

    private static boolean hidden(Member m) {
        return Modifier.isPrivate(m.getModifiers()) || m.isSynthetic();
    }

    private static List<Class<?>> all() {
        List<Class<?>> all = new ArrayList<>(Arrays.asList(DebtYear.class.getDeclaredClasses()));
        all.add(DebtYear.class);
        return all;
    }

    private static void classes() {
        yes("twelve classes at most", all().size() <= 12);
        for (Class<?> c : all()) {
            yes(c + " is static", c == DebtYear.class || Modifier.isStatic(c.getModifiers()));
            yes(c + " is flat", c == DebtYear.class || c.getDeclaredClasses().length == 0);
            int own = 0;
            for (Field f : c.getDeclaredFields()) {
                boolean isStatic = Modifier.isStatic(f.getModifiers());
                own += isStatic ? 0 : 1;
                yes(f + " is final", !isStatic || Modifier.isFinal(f.getModifiers()));
            }
            yes(c + " has twenty fields at most", own <= 20);
        }
    }

    private static void source() throws IOException {
        String text = Files.readString(Path.of("src/main/java/DebtYear.java"));
        String code = Pattern.compile("/\\*.*?\\*/", Pattern.DOTALL).matcher(text).replaceAll(m -> m.group().replaceAll("[^\n]", ""))
                .replaceAll("//[^\n]*", "").replaceAll("\"[^\"\n]*\"", "\"\"");
        yes("signs 1 to 127 alone", text.chars().allMatch(c -> c > 0 && c < 128));
        String[] words = {"throw", "throws", "try", "catch", "synchronized", "assert", "package", "protected", "var",
            "double", "float", "Object", "Exception", "System.out", "Random", "Thread", "hashCode", "toString", "equals"};
        for (String w : words) {
            yes("no " + w, !Pattern.compile("\\b" + Pattern.quote(w) + "\\b").matcher(code).find());
        }
        yes("no lambda", !code.contains("->"));
        yes("no method reference", !code.contains("::"));
        yes("no Exact", !code.contains("Exact"));
        Matcher imports = Pattern.compile("import ([^;]*);").matcher(code);
        while (imports.find()) {
            yes("import " + imports.group(1), Set.of("java.util.Arrays", "java.util.ArrayList", "java.util.List").contains(imports.group(1)));
        }
        shortMethods(code.split("\n"));
    }

    /** A method begins on a line that ends with ) and a brace, and ends with a brace as far in. */
    private static void shortMethods(String[] lines) {
        for (int i = 0; i < lines.length; i++) {
            Matcher m = Pattern.compile("^( {4}| {8})(?:\\w[\\w\\[\\] ]*)\\(.*\\) \\{$").matcher(lines[i]);
            if (m.matches()) {
                int end = i;
                while (end < lines.length && !lines[end].equals(m.group(1) + "}")) {
                    end++;
                }
                yes("short: " + lines[i].strip(), end - i <= 60);
            }
        }
    }

    private static void room() throws IllegalAccessException {
        Set<Object> seen = Collections.newSetFromMap(new IdentityHashMap<>());
        Deque<Object> open = new ArrayDeque<>();
        open.add(new DebtYear());
        int objects = 0;
        int elements = 0;
        while (!open.isEmpty()) {
            Object o = open.pop();
            if (!seen.add(o)) {
                continue;
            }
            objects++;
            if (o.getClass().isArray()) {
                elements += Array.getLength(o);
                for (int i = 0; i < Array.getLength(o) && !o.getClass().getComponentType().isPrimitive(); i++) {
                    if (Array.get(o, i) != null) {
                        open.push(Array.get(o, i));
                    }
                }
                continue;
            }
            for (Field f : o.getClass().getDeclaredFields()) {
                if (!Modifier.isStatic(f.getModifiers())) {
                    elements++;
                    f.setAccessible(true);
                    if (!f.getType().isPrimitive() && f.get(o) != null) {
                        open.push(f.get(o));
                    }
                }
            }
        }
        System.out.println("a new object takes " + objects + " objects, " + elements + " fields and elements");
        yes("objects", objects < 300);
        yes("fields and elements", elements < 10000);
    }

    private static void yes(String what, boolean is) {
        Check.due(what, is ? 1 : 0, 1);
    }
}
