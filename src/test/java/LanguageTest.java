import java.io.IOException;
import java.lang.reflect.Constructor;
import java.lang.reflect.Field;
import java.lang.reflect.Method;
import java.lang.reflect.Modifier;
import java.nio.file.Files;
import java.nio.file.Path;
import java.util.ArrayList;
import java.util.HashSet;
import java.util.List;
import java.util.Set;
import java.util.regex.Matcher;
import java.util.regex.Pattern;

/** What ../shared/LANGUAGE.md asks, as far as a text and a class tell it. The first argument is the program's file. */
final class LanguageTest {
    private static final String[] FACE = {
        "int row(int,int,int)", "int set(int,int,long)", "int copy(int,int,int,int,int)", "long element(int,int)",
        "int holds(int)", "int show(int,int)", "int says(int,int)", "int brother(int,int,int)",
        "int feud(int,int,boolean)", "int need(int)", "int age(int,int)", "int goes(int,int)", "int dies(int)",
        "int feed(int)", "int wipe()", "int rock()", "int brotherOf(int,int)", "int needOf(int)",
        "int shortest(int,int,boolean,int)", "int said(int,int)", "int many(int,int)", "int who(int)",
        "int nearest(int)", "int first(int)", "int crowd()", "int gather()", "int alone()", "int lasting()",
        "int longest(int)", "int met()", "int without(int,int)", "int mightiest()", "int choice(int)",
        "int lost(int,int)", "int ran(int,int)", "int meant(int,int)", "int judge(int,int)", "int means(int,int)",
        "int stands(int,int,int)", "int done(int,int)", "int peace(int)", "int years(int)", "int seed(int)",
        "int image()", "int back()", "int status(int)",
    };
    private static final String[] BANNED = {
        "\\bimport\\b", "\\bpackage\\b", "\\bthrows?\\b", "\\btry\\b", "\\bcatch\\b", "\\bfinally\\b", "\\bsynchronized\\b",
        "\\bassert\\b", "->", "::", "\\bequals\\b", "\\bhashCode\\b", "\\btoString\\b", "Exact\\b", "\\bObject\\b",
        "\\bprotected\\b", "\\bnative\\b", "\\bvar\\b", "\\bMAX_VALUE\\b", "\\bMIN_VALUE\\b", "\\bMap\\b", "\\bSet\\b",
    };
    private static final int LONGEST_METHOD = 60;

    private LanguageTest() {
    }

    public static void main(String[] args) throws IOException {
        String text = Files.readString(Path.of(args.length > 0 ? args[0] : "src/main/java/VowOfOneWord.java"));
        face();
        insides();
        words(text);
        methodLengths(text);
        Due.end("LanguageTest");
    }

    private static void face() {
        Class<?> all = VowOfOneWord.class;
        Set<String> want = new HashSet<>(List.of(FACE));
        Set<String> names = new HashSet<>();
        for (Method m : all.getDeclaredMethods()) {
            if (Modifier.isPrivate(m.getModifiers())) {
                continue;
            }
            String shown = m.toString().replaceAll("VowOfOneWord\\.", "");
            Due.that("rule 1: the face has " + shown, shown.startsWith("public ") && want.remove(shown.substring(7)));
            names.add(m.getName());
        }
        Due.that("rule 1: the face lacks " + want, want.isEmpty());
        for (Method m : all.getDeclaredMethods()) {
            Due.that("rule 1: " + m, !Modifier.isPrivate(m.getModifiers()) || !names.contains(m.getName()));
        }
        for (Field f : all.getDeclaredFields()) {
            boolean none = f.getName().equals("NONE") && Modifier.isPublic(f.getModifiers());
            Due.that("rule 1: " + f, none || Modifier.isPrivate(f.getModifiers()));
        }
        Constructor<?>[] made = all.getDeclaredConstructors();
        Due.that("rule 1: one constructor", made.length == 1 && Modifier.isPublic(made[0].getModifiers())
            && made[0].getParameterCount() == 0);
        Due.that("rule 1: public, final", Modifier.isPublic(all.getModifiers()) && Modifier.isFinal(all.getModifiers()));
    }

    private static void insides() {
        List<Class<?>> classes = new ArrayList<>(List.of(VowOfOneWord.class.getDeclaredClasses()));
        Due.that("rule 11: classes", classes.size() < 12);
        classes.add(VowOfOneWord.class);
        for (Class<?> c : classes) {
            Due.that("rule 2: " + c, c == VowOfOneWord.class || Modifier.isStatic(c.getModifiers())
                && !Modifier.isPublic(c.getModifiers()) && !Modifier.isProtected(c.getModifiers()));
            int fields = 0;
            for (Field f : c.getDeclaredFields()) {
                boolean isStatic = Modifier.isStatic(f.getModifiers());
                fields += isStatic ? 0 : 1;
                Due.that("rule 5: " + f, !isStatic || Modifier.isFinal(f.getModifiers()));
            }
            Due.that("rule 11: fields of " + c, fields <= 20);
            for (Method m : c.getDeclaredMethods()) {
                Due.that("rule 11: " + m, m.getParameterCount() <= 7);
            }
        }
    }

    private static void words(String text) {
        for (int i = 0; i < text.length(); i++) {
            Due.that("rule 4: sign " + (int) text.charAt(i), text.charAt(i) >= 1 && text.charAt(i) <= 127);
        }
        String code = text.replaceAll("(?s)/\\*.*?\\*/", "").replaceAll("//[^\n]*", "").replaceAll("\"[^\"\n]*\"", "\"\"");
        for (String word : BANNED) {
            Matcher m = Pattern.compile(word).matcher(code);
            Due.that("no " + word, !m.find());
        }
        Matcher library = Pattern.compile("\\b(Math|Integer|Long|System|Arrays|String|StringBuilder)\\.(\\w+)").matcher(code);
        Set<String> fine = Set.of("abs", "min", "max", "bitCount", "arraycopy");
        while (library.find()) {
            Due.that("rule 4: " + library.group(), fine.contains(library.group(2)));
        }
    }

    private static void methodLengths(String text) {
        String[] lines = text.split("\n");
        int from = -1;
        for (int i = 0; i < lines.length; i++) {
            if (lines[i].matches(" {4}( {4})?\\S.*\\) \\{") && !lines[i].trim().matches("(if|for|while|switch|else).*")) {
                from = i;
            } else if (from >= 0 && lines[i].matches(" {4}( {4})?\\}")) {
                Due.that("rule 11: " + lines[from], i - from + 1 <= LONGEST_METHOD);
                from = -1;
            }
        }
    }
}
