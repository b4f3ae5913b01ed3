import java.io.IOException;
import java.lang.reflect.Constructor;
import java.lang.reflect.Field;
import java.lang.reflect.Method;
import java.lang.reflect.Modifier;
import java.nio.file.Files;
import java.nio.file.Path;
import java.util.ArrayList;
import java.util.List;
import java.util.Set;
import java.util.TreeSet;
import java.util.regex.Matcher;
import java.util.regex.Pattern;

/** The face of the class, and what of LANGUAGE.md can be seen in its text. Run from the project's root. */
public final class LanguageTests {
    private static final String[] METHODS = {
        "int variable()", "int equate(int,int)", "int token(int,int,int,boolean)", "int both(int,int)",
        "int when(int,int,int,int)", "int either(int,int,int,int)", "int hide(int,int)", "int call(int,int,int)",
        "int next(int)", "int each(int)", "int unless(boolean,int,int,int,int)", "int lot(int,int,int,int)",
        "int attempt(int,int)", "int define(int,int)", "boolean head(int,int,int,boolean)",
        "int other(int,int,int,boolean)", "boolean guard(int,int,int)", "int body(int,int,int)", "int rule()",
        "int begin(int,int,int)", "int step()", "int seed(int)", "int ends()", "int clock()", "boolean hasFailed()",
        "int variables()", "int value(int)", "boolean areOne(int,int)", "int tokens()", "int part(int,int)",
        "boolean isMadeBy(int,int)", "int standing()", "int standingAnew()", "int waiting()", "int fired(int)",
        "int chance(boolean)"};
    private static final String[] CONSTANTS = {"NONE", "ANY", "SLOT", "FREE", "EQUAL", "UNLIKE", "LESS", "KNOWN", "HAS"};

    private LanguageTests() {
    }

    public static void main(String[] args) throws IOException {
        face();
        String text = Files.readString(Path.of("src/main/java/Tellcourt.java"));
        String code = bare(text);
        words(code);
        methods(code);
        Due.end("LanguageTests");
    }

    private static void face() {
        Set<String> due = new TreeSet<>(List.of(METHODS));
        Set<String> got = new TreeSet<>();
        Set<String> names = new TreeSet<>();
        for (Method m : Tellcourt.class.getDeclaredMethods()) {
            List<String> types = new ArrayList<>();
            for (Class<?> c : m.getParameterTypes()) {
                types.add(c.getSimpleName());
            }
            if (!Modifier.isPrivate(m.getModifiers())) {
                got.add(m.getReturnType().getSimpleName() + " " + m.getName() + "(" + String.join(",", types) + ")");
                names.add(m.getName());
            }
        }
        Due.holds("the methods of the face " + got, got.equals(due));
        for (Class<?> c : Tellcourt.class.getDeclaredClasses()) {
            Due.holds(c + " is static and not public", Modifier.isStatic(c.getModifiers()) && !Modifier.isPublic(c.getModifiers()));
            int fields = 0;
            for (Field f : c.getDeclaredFields()) {
                fields += Modifier.isStatic(f.getModifiers()) ? 0 : 1;
                Due.holds(f + " is final if static", !Modifier.isStatic(f.getModifiers()) || Modifier.isFinal(f.getModifiers()));
            }
            Due.holds(c + " has some twenty fields", fields <= 20);
            for (Method m : c.getDeclaredMethods()) {
                Due.holds(c + "." + m.getName() + " has no name of the face", !names.contains(m.getName()));
            }
        }
        for (Method m : Tellcourt.class.getDeclaredMethods()) {
            Due.holds(m + " has a name of its own", !Modifier.isPrivate(m.getModifiers()) || !names.contains(m.getName()));
        }
        Due.holds("some twelve classes", Tellcourt.class.getDeclaredClasses().length <= 11);
        Set<String> constants = new TreeSet<>();
        for (Field f : Tellcourt.class.getDeclaredFields()) {
            if (!Modifier.isPrivate(f.getModifiers())) {
                constants.add(f.getName());
                Due.holds(f.getName() + " is a constant", f.getModifiers() == (Modifier.PUBLIC | Modifier.STATIC | Modifier.FINAL));
            }
            Due.holds(f.getName() + " is final if static", !Modifier.isStatic(f.getModifiers()) || Modifier.isFinal(f.getModifiers()));
        }
        Due.holds("the constants " + constants, constants.equals(new TreeSet<>(List.of(CONSTANTS))));
        Constructor<?>[] made = Tellcourt.class.getDeclaredConstructors();
        Due.holds("one constructor", made.length == 1 && Modifier.isPublic(made[0].getModifiers()) && made[0].getParameterCount() == 0);
        Due.holds("a final class", Modifier.isFinal(Tellcourt.class.getModifiers()) && Tellcourt.class.getPackageName().isEmpty());
    }

    /** The text without comments, and with empty strings. */
    private static String bare(String text) {
        return text.replaceAll("(?s)/\\*.*?\\*/", "").replaceAll("//[^\n]*", "").replaceAll("\"[^\"\n]*\"", "\"\"");
    }

    private static void words(String code) {
        String[] never = {"->", "::", "\\btry\\b", "\\bcatch\\b", "\\bfinally\\b", "\\bsynchronized\\b", "\\bassert\\b",
            "\\bstatic\\s*\\{", "\\bNaN\\b", "\\bhashCode\\b", "\\btoString\\b", "\\bequals\\b", "Exact\\b", "\\bthread\\b",
            "\\bpackage\\b", "\"\\s*\\+", "\\+\\s*\"", "\\brandom\\b", "\\bnanoTime\\b", "\\bdouble\\b", "\\bfloat\\b",
            "\\bObject\\b", "\\binstanceof\\b", "\\[\\]\\[\\]"};
        for (String word : never) {
            Due.holds("no " + word, !Pattern.compile(word).matcher(code).find());
        }
        Matcher imports = Pattern.compile("import ([^;]*);").matcher(code);
        while (imports.find()) {
            Due.holds(imports.group(), imports.group(1).equals("java.util.Arrays"));
        }
        Matcher library = Pattern.compile("\\b(Arrays|System|Math|Integer|Long)\\.(\\w+)").matcher(code);
        while (library.find()) {
            Due.holds(library.group(), Set.of("Arrays.fill", "System.arraycopy", "Math.min", "Math.max").contains(library.group()));
        }
        Matcher thrown = Pattern.compile("throw ([^;]*);").matcher(code);
        while (thrown.find()) {
            Due.holds(thrown.group(), thrown.group(1).matches("new (IllegalState|IllegalArgument|IndexOutOfBounds)Exception\\(\"\"\\)"));
        }
        for (int i = 0; i < code.length(); i++) {
            Due.holds("plain signs", code.charAt(i) < 127);
        }
    }

    private static void methods(String code) {
        String[] lines = code.split("\n");
        Pattern head = Pattern.compile("^( {4}| {8})(?! )(?!.*\\bclass\\b)[\\w<>\\[\\] ]+\\((.*)");
        int found = 0;
        for (int i = 0; i < lines.length; i++) {
            Matcher m = head.matcher(lines[i]);
            boolean opens = lines[i].endsWith("{") || i + 1 < lines.length && lines[i + 1].strip().startsWith("throws");
            if (!m.matches() || !opens || lines[i].strip().matches("(for|if|while|switch|return|\\}).*")) {
                continue;
            }
            int end = i;
            while (!lines[end].equals(m.group(1) + "}")) {
                end++;
            }
            found++;
            int parameters = m.group(2).startsWith(")") ? 0 : m.group(2).replaceAll("\\).*", "").split(",").length;
            Due.holds("at most seven parameters: " + lines[i].strip(), parameters <= 7);
            Due.holds("some sixty lines: " + lines[i].strip() + " has " + (end - i + 1), end - i + 1 <= 60);
        }
        Due.holds("the methods were found: " + found, found > 100);
    }
}
