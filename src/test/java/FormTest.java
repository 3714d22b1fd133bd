import java.lang.reflect.Constructor;
import java.lang.reflect.Field;
import java.lang.reflect.Method;
import java.lang.reflect.Modifier;
import java.nio.file.Files;
import java.nio.file.Path;
import java.util.ArrayList;
import java.util.List;
import java.util.Set;
import java.util.TreeSet;
import java.util.regex.Matcher;
import java.util.regex.Pattern;

/** What of LANGUAGE.md can be seen from outside: the face, the fields, the parameters and some words. */
public final class FormTest {
    private static final String FACE = "state pillar saint set act days feed end text fault of at sky book goes loaves heir comes "
            + "scandal middle follows gives seen hears build builds gone lap game undo image look";
    private static final Set<String> LIBRARY = Set.of("Math.max", "Math.min", "Math.abs", "Math.floorDiv", "Math.floorMod",
            "Integer.bitCount", "Integer.compare", "Arrays.fill", "Arrays.copyOf", "Arrays.copyOfRange", "System.arraycopy");
    private static int wrong = 0;

    private static void check(boolean fine, String what) {
        if (!fine) {
            wrong++;
            System.out.println("form: " + what);
        }
    }

    public static void main(String[] args) throws Exception {
        List<Class<?>> all = new ArrayList<>(List.of(PillarSaints.class));
        all.addAll(List.of(PillarSaints.class.getDeclaredClasses()));
        check(all.size() <= 12, "rule 11: " + all.size() + " classes");
        face();
        for (Class<?> c : all) {
            members(c);
        }
        words();
        System.out.println(wrong == 0 ? "form: as the rules ask" : "form: " + wrong + " faults");
        if (wrong != 0) {
            System.exit(1);
        }
    }

    private static void face() {
        Set<String> names = new TreeSet<>(List.of(FACE.split(" ")));
        Set<String> found = new TreeSet<>();
        for (Method m : PillarSaints.class.getDeclaredMethods()) {
            if (!m.isSynthetic() && !Modifier.isPrivate(m.getModifiers())) {
                check(Modifier.isPublic(m.getModifiers()), "rule 1: " + m);
                found.add(m.getName());
            }
        }
        check(found.equals(names), "rule 1: the face has " + found);
        for (Field f : PillarSaints.class.getDeclaredFields()) {
            check(Modifier.isPrivate(f.getModifiers()) || f.getName().equals("NONE"), "rule 1: " + f);
        }
        for (Constructor<?> c : PillarSaints.class.getDeclaredConstructors()) {
            check(Modifier.isPublic(c.getModifiers()) && c.getParameterCount() == 0, "rule 1: " + c);
        }
    }

    private static void members(Class<?> c) {
        Set<String> names = new TreeSet<>(List.of(FACE.split(" ")));
        int fields = 0;
        for (Field f : c.getDeclaredFields()) {
            boolean constant = Modifier.isStatic(f.getModifiers());
            fields += constant ? 0 : 1;
            check(!constant || Modifier.isFinal(f.getModifiers()), "rule 5: " + f);
        }
        check(fields <= 20, "rule 11: " + c + " has " + fields + " fields");
        for (Method m : c.getDeclaredMethods()) {
            check(m.getParameterCount() <= 7, "rule 11: " + m);
            check(c == PillarSaints.class && Modifier.isPublic(m.getModifiers()) || !names.contains(m.getName()), "rule 1: " + m);
        }
        if (c != PillarSaints.class) {
            check(Modifier.isStatic(c.getModifiers()), "rule 2: " + c);
        }
    }

    private static void words() throws Exception {
        String source = Files.readString(Path.of("src/main/java/PillarSaints.java"));
        String code = source.replaceAll("(?s)/\\*.*?\\*/", " ").replaceAll("//[^\n]*", " ").replaceAll("\"[^\"]*\"", "\"\"");
        Matcher m = Pattern.compile("\\b(throw|throws|try|catch|synchronized|assert|package|float|double|hashCode|toString|Random|System\\.(?!arraycopy)\\w+)\\b|->|::").matcher(code);
        while (m.find()) {
            check(false, "rules 3, 4, 6: " + m.group());
        }
        Matcher library = Pattern.compile("\\b(?:Math|Integer|Long|String|Arrays|System)\\.\\w+").matcher(code);
        while (library.find()) {
            check(LIBRARY.contains(library.group()), "rule 4: " + library.group());
        }
        Matcher imports = Pattern.compile("import ([\\w.]+);").matcher(code);
        while (imports.find()) {
            check(imports.group(1).equals("java.util.Arrays"), "rule 4: " + imports.group());
        }
        for (int i = 0; i < source.length(); i++) {
            check(source.charAt(i) == '\n' || source.charAt(i) >= 32 && source.charAt(i) < 127, "a sign beyond 127 at " + i);
        }
        Matcher methods = Pattern.compile("(?m)^( +)(?:public |private |static |final )*[\\w\\[\\]]+ ?\\w*\\([^;{]*\\{\n(?:.*\n)*?\\1\\}").matcher(code);
        while (methods.find()) {
            check(methods.group().split("\n").length <= 60, "rule 11: long: " + methods.group().split("\n")[0]);
        }
    }
}
