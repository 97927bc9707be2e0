import java.lang.reflect.Constructor;
import java.lang.reflect.Field;
import java.lang.reflect.Method;
import java.lang.reflect.Modifier;
import java.nio.file.Files;
import java.nio.file.Path;
import java.util.ArrayList;
import java.util.Arrays;
import java.util.HashSet;
import java.util.List;
import java.util.Set;
import java.util.regex.Matcher;
import java.util.regex.Pattern;

/** What of ../shared/LANGUAGE.md a program can look for: the face, static state, forbidden words, sizes. */
public final class RulesTest {
    private static int wrong = 0;

    private static void must(boolean so, String what) {
        if (!so) {
            wrong++;
            System.out.println("not as the rules have it: " + what);
        }
    }

    public static void main(String[] args) throws Exception {
        face();
        classes();
        words();
        System.out.println(wrong == 0 ? "the rules are kept" : wrong + " rules broken");
        if (wrong != 0) {
            System.exit(1);
        }
    }

    /** The face as the document's own block of Java has it, so that no name is typed twice. */
    private static Set<String> faceOfTheDocument() throws Exception {
        String doc = Files.readString(Path.of("../shared/DOC.md"));
        String block = doc.substring(doc.indexOf("```java"), doc.indexOf("```", doc.indexOf("```java") + 7));
        Set<String> face = new HashSet<>();
        Matcher m = Pattern.compile("public (int|long) (\\w+)\\(([^)]*)\\)").matcher(block);
        while (m.find()) {
            StringBuilder b = new StringBuilder(m.group(1)).append(' ').append(m.group(2)).append('(');
            for (String p : m.group(3).split(",")) {
                b.append(p.isBlank() ? "" : p.trim().split(" ")[0]).append(',');
            }
            face.add(b.append(')').toString());
        }
        return face;
    }

    private static void face() throws Exception {
        Class<?> c = EnemyLetters.class;
        Set<String> face = faceOfTheDocument();
        Set<String> found = new HashSet<>();
        Set<String> names = new HashSet<>();
        for (Method m : c.getDeclaredMethods()) {
            if (Modifier.isPublic(m.getModifiers())) {
                StringBuilder b = new StringBuilder(m.getReturnType().getName()).append(' ').append(m.getName()).append('(');
                for (Class<?> p : m.getParameterTypes()) {
                    b.append(p.getName()).append(',');
                }
                found.add(b.append(m.getParameterCount() == 0 ? ",)" : ")").toString());
                names.add(m.getName());
                must(!Modifier.isStatic(m.getModifiers()), m + " is static");
            } else {
                must(Modifier.isPrivate(m.getModifiers()), m + " is not private");
            }
        }
        must(face.size() == 77, "the document has " + face.size() + " methods");
        must(found.equals(face), "the face differs: " + found + " " + face);
        for (Class<?> inside : allOf(c)) {
            for (Method m : inside.getDeclaredMethods()) {
                must(Modifier.isPublic(m.getModifiers()) || !names.contains(m.getName()), m + " bears a public name");
            }
        }
        must(Modifier.isPublic(c.getModifiers()) && Modifier.isFinal(c.getModifiers()), "the class is public and final");
        Constructor<?>[] makers = c.getDeclaredConstructors();
        must(makers.length == 1 && Modifier.isPublic(makers[0].getModifiers()) && makers[0].getParameterCount() == 0,
            "one public constructor");
        for (Field f : c.getDeclaredFields()) {
            must(Modifier.isPrivate(f.getModifiers()) || f.getName().equals("NONE"), f + " is not private");
        }
    }

    private static List<Class<?>> allOf(Class<?> c) {
        List<Class<?>> all = new ArrayList<>(List.of(c));
        for (Class<?> inside : c.getDeclaredClasses()) {
            all.addAll(allOf(inside));
        }
        return all;
    }

    private static void classes() {
        List<Class<?>> all = allOf(EnemyLetters.class);
        must(all.size() <= 12, all.size() + " classes");
        for (Class<?> c : all) {
            must(c == EnemyLetters.class || Modifier.isStatic(c.getModifiers()), c + " is not static");
            must(c == EnemyLetters.class || !Modifier.isPublic(c.getModifiers()), c + " is public");
            long own = Arrays.stream(c.getDeclaredFields()).filter(f -> !Modifier.isStatic(f.getModifiers())).count();
            must(own <= 20, c + " has " + own + " fields");
            for (Field f : c.getDeclaredFields()) {
                must(!Modifier.isStatic(f.getModifiers()) || Modifier.isFinal(f.getModifiers()), f + " is not final");
            }
            for (Method m : c.getDeclaredMethods()) {
                must(m.getParameterCount() <= 7, m + " has too many parameters");
            }
        }
    }

    private static void words() throws Exception {
        String code = Files.readString(Path.of("src/main/java/EnemyLetters.java"));
        String bare = code.replaceAll("(?s)/\\*.*?\\*/", "").replaceAll("//[^\n]*", "").replaceAll("\"[^\"\n]*\"", "\"\"");
        for (String word : List.of("throw", "throws", "try", "catch", "finally", "synchronized", "assert", "volatile",
                "Object", "System.out", "System.nanoTime", "Random", "hashCode", "toString", "package",
                "double", "float", "instanceof", "Thread")) {
            must(!Pattern.compile("(?<!\\w)" + Pattern.quote(word) + "(?!\\w)").matcher(bare).find(), word + " stands there");
        }
        for (String sign : List.of("Exact(", "->", "::", "static {")) {
            must(!bare.contains(sign), sign + " stands there");
        }
        for (String line : code.split("\n")) {
            must(!line.startsWith("import") || line.equals("import java.util.Arrays;"), line);
            must(line.chars().allMatch(ch -> ch < 127), "a sign beyond 126: " + line);
        }
        String[] lines = code.split("\n");
        for (int i = 0; i < lines.length; i++) {
            if (lines[i].matches(" {4,8}\\w[^=;]*\\) \\{")) {
                String close = lines[i].replaceAll("\\S.*", "}");
                int end = i;
                while (end < lines.length && !lines[end].equals(close)) {
                    end++;
                }
                must(end - i <= 60, "a method of over 60 lines: " + lines[i]);
            }
        }
    }
}
