import java.io.IOException;
import java.lang.reflect.Array;
import java.lang.reflect.Constructor;
import java.lang.reflect.Field;
import java.lang.reflect.Method;
import java.lang.reflect.Modifier;
import java.nio.file.Files;
import java.nio.file.Path;
import java.util.ArrayList;
import java.util.HashSet;
import java.util.IdentityHashMap;
import java.util.List;
import java.util.Map;
import java.util.Set;
import java.util.regex.Matcher;
import java.util.regex.Pattern;

/** What ../shared/LANGUAGE.md asks, as far as a text and a class tell it. The first argument is the program's file. */
final class LanguageTest {
    private static final String[] FACE = {
        "int row(int,int,int)", "int set(int,int,long)", "int copy(int,int,int,int,int)", "long element(int,int)",
        "int holds(int)", "int show(int,int)", "int says(int,int)", "int brother(int,int,int)",
        "int feud(int,int,boolean)", "int need(int)", "int age(int,int)", "int goes(int,int)", "int dies(int)",
        "int feed(int)", "int wipe()", "int rock()", "int brotherOf(int,int)", "int needOf(int)",
        "int shortest(int,int,boolean,int)", "int said(int,int)", "int many(int,int)", "int who(int)",
        "int nearest(int)", "int first(int)", "int crowd()", "int gather()", "int alone()", "int lasting()",
        "int longest(int)", "int met()", "int without(int,int)", "int mightiest()", "int choice(int)",
        "int lost(int,int)", "int ran(int,int)", "int meant(int,int)", "int judge(int,int)", "int means(int,int)",
        "int stands(int,int,int)", "int done(int,int)", "int peace(int)", "int years(int)", "int seed(int)",
        "int image()", "int back()", "int status(int)",
    };
    private static final String[] BANNED = {
        "\\bimport\\b", "\\bpackage\\b", "\\bthrows?\\b", "\\btry\\b", "\\bcatch\\b", "\\bfinally\\b", "\\bsynchronized\\b",
        "\\bassert\\b", "->", "::", "\\bequals\\b", "\\bhashCode\\b", "\\btoString\\b", "Exact\\b", "\\bObject\\b",
        "\\bprotected\\b", "\\bnative\\b", "\\bvar\\b", "\\bMAX_VALUE\\b", "\\bMIN_VALUE\\b", "\\bMap\\b", "\\bSet\\b",
    };
    private static final int LONGEST_METHOD = 60;
    private static final long MOST_CALLS = 512;
    private static final long MOST_OBJECTS = 600000;
    private static final long MOST_ELEMENTS = 7300000;

    private LanguageTest() {
    }

    public static void main(String[] args) throws IOException {
        String text = Files.readString(Path.of(args.length > 0 ? args[0] : "src/main/java/VowOfOneWord.java"));
        face();
        insides();
        words(text);
        methods(text);
        room();
        Due.end("LanguageTest");
    }

    private static void face() {
        Class<?> all = VowOfOneWord.class;
        Set<String> want = new HashSet<>(List.of(FACE));
        Set<String> names = new HashSet<>();
        for (Method m : all.getDeclaredMethods()) {
            if (Modifier.isPrivate(m.getModifiers())) {
                continue;
            }
            String shown = m.toString().replaceAll("VowOfOneWord\\.", "");
            Due.that("rule 1: the face has " + shown, shown.startsWith("public ") && want.remove(shown.substring(7)));
            names.add(m.getName());
        }
        Due.that("rule 1: the face lacks " + want, want.isEmpty());
        for (Method m : all.getDeclaredMethods()) {
            Due.that("rule 1: " + m, !Modifier.isPrivate(m.getModifiers()) || !names.contains(m.getName()));
        }
        for (Field f : all.getDeclaredFields()) {
            boolean none = f.getName().equals("NONE") && Modifier.isPublic(f.getModifiers());
            Due.that("rule 1: " + f, none || Modifier.isPrivate(f.getModifiers()));
        }
        Constructor<?>[] made = all.getDeclaredConstructors();
        Due.that("rule 1: one constructor", made.length == 1 && Modifier.isPublic(made[0].getModifiers())
            && made[0].getParameterCount() == 0);
        Due.that("rule 1: public, final", Modifier.isPublic(all.getModifiers()) && Modifier.isFinal(all.getModifiers()));
    }

    private static void insides() {
        List<Class<?>> classes = new ArrayList<>(List.of(VowOfOneWord.class.getDeclaredClasses()));
        Due.that("rule 11: classes", classes.size() < 12);
        classes.add(VowOfOneWord.class);
        for (Class<?> c : classes) {
            Due.that("rule 2: " + c, c == VowOfOneWord.class || Modifier.isStatic(c.getModifiers())
                && !Modifier.isPublic(c.getModifiers()) && !Modifier.isProtected(c.getModifiers()));
            int fields = 0;
            for (Field f : c.getDeclaredFields()) {
                boolean isStatic = Modifier.isStatic(f.getModifiers());
                fields += isStatic ? 0 : 1;
                Due.that("rule 5: " + f, !isStatic || Modifier.isFinal(f.getModifiers()));
            }
            Due.that("rule 11: fields of " + c, fields <= 20);
            for (Method m : c.getDeclaredMethods()) {
                Due.that("rule 11: " + m, m.getParameterCount() <= 7);
            }
        }
    }

    private static void words(String text) {
        for (int i = 0; i < text.length(); i++) {
            Due.that("rule 4: sign " + (int) text.charAt(i), text.charAt(i) >= 1 && text.charAt(i) <= 127);
        }
        String code = text.replaceAll("(?s)/\\*.*?\\*/", "").replaceAll("//[^\n]*", "").replaceAll("\"[^\"\n]*\"", "\"\"");
        for (String word : BANNED) {
            Matcher m = Pattern.compile(word).matcher(code);
            Due.that("no " + word, !m.find());
        }
        Matcher library = Pattern.compile("\\b(Math|Integer|Long|System|Arrays|String|StringBuilder)\\.(\\w+)").matcher(code);
        Set<String> fine = Set.of("abs", "min", "max", "bitCount", "arraycopy");
        while (library.find()) {
            Due.that("rule 4: " + library.group(), fine.contains(library.group(2)));
        }
    }

    /** Methods are told by how far in they stand: each ends with the first brace as far in as its own first line. */
    private static void methods(String text) {
        String[] lines = text.split("\n");
        int found = 0;
        int from = -1;
        String margin = "";
        for (int i = 0; i < lines.length; i++) {
            if (from < 0 && lines[i].matches(" {4}( {4})?[a-zA-Z].*\\(.*\\) \\{")) {
                from = i;
                margin = lines[i].replaceAll("\\S.*", "");
            } else if (from >= 0 && lines[i].equals(margin + "}")) {
                method(List.of(lines).subList(from, i + 1));
                found++;
                from = -1;
            }
        }
        int declared = 0;
        List<Class<?>> classes = new ArrayList<>(List.of(VowOfOneWord.class.getDeclaredClasses()));
        classes.add(VowOfOneWord.class);
        for (Class<?> c : classes) {
            for (Method m : c.getDeclaredMethods()) {
                declared += m.isSynthetic() ? 0 : 1;
            }
        }
        Due.that("methods and constructors in the text: " + found + ", methods: " + declared,
            from < 0 && found >= declared && found <= declared + classes.size());
    }

    private static void method(List<String> lines) {
        String head = lines.get(0).trim();
        Due.that("rule 11: " + head, lines.size() <= LONGEST_METHOD);
        boolean makes = String.join("\n", lines).replaceAll("//[^\n]*", "").matches("(?s).*\\bnew\\b.*");
        Due.that("a call makes something: " + head, !makes || head.matches("(public )?[A-Z]\\w*\\(.*"));
    }

    /** No call makes anything (method() looks), so the dearest is the constructor: all calls of a run may be it. */
    private static void room() {
        Map<Object, Object> seen = new IdentityHashMap<>();
        long elements = elementsOf(new VowOfOneWord(), seen);
        Due.that("the room: " + seen.size() + " objects each", seen.size() * MOST_CALLS <= MOST_OBJECTS);
        Due.that("the room: " + elements + " elements each", elements * MOST_CALLS <= MOST_ELEMENTS);
    }

    private static long elementsOf(Object o, Map<Object, Object> seen) {
        if (o == null || o instanceof String || seen.put(o, o) != null) {
            return 0;
        }
        long elements = 0;
        if (o.getClass().isArray()) {
            elements = Array.getLength(o);
            for (int i = 0; i < Array.getLength(o) && o instanceof Object[]; i++) {
                elements += elementsOf(Array.get(o, i), seen);
            }
            return elements;
        }
        for (Field f : o.getClass().getDeclaredFields()) {
            if (!Modifier.isStatic(f.getModifiers())) {
                elements += 1 + (f.getType().isPrimitive() ? 0 : elementsOf(valueOf(f, o), seen));
            }
        }
        return elements;
    }

    private static Object valueOf(Field f, Object o) {
        try {
            f.setAccessible(true);
            return f.get(o);
        } catch (IllegalAccessException e) {
            throw new IllegalStateException(e);
        }
    }
}
