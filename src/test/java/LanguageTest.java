import java.io.IOException;
import java.lang.reflect.Constructor;
import java.lang.reflect.Field;
import java.lang.reflect.Method;
import java.lang.reflect.Modifier;
import java.nio.file.Files;
import java.nio.file.Path;
import java.util.List;
import java.util.Set;
import java.util.TreeSet;
import java.util.regex.Matcher;
import java.util.regex.Pattern;

/** The face of the class, and those rules of LANGUAGE.md that words and members tell. */
public final class LanguageTest {
    private static final Path SOURCE = Path.of("src/main/java/BassRealiser.java");
    private static final Set<String> FACE = Set.of("key/1", "chord/3", "less/0", "figure/3", "plain/1", "range/3", "home/2",
        "leap/1", "given/3", "bass/1", "worked/3", "voicings/1", "voicing/3", "solve/0", "note/2", "many/0", "sing/4",
        "fault/1", "sung/0", "count/1");
    private static final String[] FORBIDDEN = {"throw", "try", "catch", "synchronized", "assert", "import", "package", "->", "::",
        "protected", "System\\.(?!arraycopy)", "Exact", "Random", "hashCode", "toString", "HashMap", "double", "float"};
    private static int wrong = 0;

    private static void must(boolean holds, String what) {
        if (!holds) {
            wrong++;
            System.out.println("language: " + what);
        }
    }

    public static void main(String[] args) throws IOException {
        face();
        nestedClasses();
        words();
        lines();
        System.out.println(wrong == 0 ? "language: all is kept" : "language: " + wrong + " faults");
        if (wrong != 0) {
            System.exit(1);
        }
    }

    private static void face() {
        Class<?> type = BassRealiser.class;
        must(Modifier.isPublic(type.getModifiers()) && Modifier.isFinal(type.getModifiers()), "the class is public and final");
        Set<String> open = new TreeSet<>();
        Set<String> names = faceNames();
        for (Method m : type.getDeclaredMethods()) {
            if (Modifier.isPrivate(m.getModifiers())) {
                must(!names.contains(m.getName()), "a private method is called " + m.getName());
            } else if (!m.isSynthetic()) {
                open.add(m.getName() + "/" + m.getParameterCount());
                must(Modifier.isPublic(m.getModifiers()) && !Modifier.isStatic(m.getModifiers()), m + " is public");
                must(m.getReturnType() == int.class, m + " answers an int");
            }
            must(m.getParameterCount() <= 7, m + " has seven parameters at most");
        }
        must(open.equals(new TreeSet<>(FACE)), "the methods are " + open);
        for (Field f : type.getDeclaredFields()) {
            boolean constant = Set.of("BAD", "NONE", "FULL").contains(f.getName());
            must(constant ? Modifier.isPublic(f.getModifiers()) : Modifier.isPrivate(f.getModifiers()), "visibility of " + f);
            must(!Modifier.isStatic(f.getModifiers()) || Modifier.isFinal(f.getModifiers()), f + " is final");
        }
        Constructor<?>[] constructors = type.getDeclaredConstructors();
        must(constructors.length == 1 && constructors[0].getParameterCount() == 0, "one constructor");
    }

    private static Set<String> faceNames() {
        Set<String> names = new TreeSet<>();
        for (String signature : FACE) {
            names.add(signature.substring(0, signature.indexOf('/')));
        }
        return names;
    }

    private static void nestedClasses() {
        Class<?>[] nested = BassRealiser.class.getDeclaredClasses();
        must(nested.length <= 11, "twelve classes at most");
        for (Class<?> type : nested) {
            must(Modifier.isStatic(type.getModifiers()) && !Modifier.isPublic(type.getModifiers()), type + " is static, not public");
            int fields = 0;
            for (Field f : type.getDeclaredFields()) {
                fields += Modifier.isStatic(f.getModifiers()) ? 0 : 1;
                must(!Modifier.isStatic(f.getModifiers()) || Modifier.isFinal(f.getModifiers()), f + " is final");
            }
            must(fields <= 20, type + " has twenty fields at most");
            for (Method m : type.getDeclaredMethods()) {
                must(!faceNames().contains(m.getName()), m + " bears the name of a public method");
                must(m.getParameterCount() <= 7, m + " has seven parameters at most");
            }
        }
    }

    private static void words() throws IOException {
        String code = Files.readString(SOURCE).replaceAll("(?s)/\\*.*?\\*/", "").replaceAll("//[^\n]*", "");
        for (String word : FORBIDDEN) {
            String bounded = Character.isLetter(word.charAt(0)) && word.matches("\\w+") && !word.equals("Exact") ? "\\b" + word + "\\b" : word;
            must(!Pattern.compile(bounded).matcher(code).find(), "the code holds " + word);
        }
    }

    /** A method ends where a brace stands as far in as its head. */
    private static void lines() throws IOException {
        Pattern head = Pattern.compile("( +)(?! |if |for |while |switch )[\\w\\[\\] ]+\\([^;]*\\) \\{");
        List<String> lines = Files.readAllLines(SOURCE);
        int methods = 0;
        for (int from = 0; from < lines.size(); from++) {
            Matcher found = head.matcher(lines.get(from));
            if (!found.matches()) {
                continue;
            }
            methods++;
            String end = found.group(1) + "}";
            int to = from + 1;
            while (to < lines.size() && !lines.get(to).equals(end)) {
                to++;
            }
            must(to - from < 60, "more than sixty lines: " + lines.get(from).trim());
        }
        must(methods > FACE.size(), "the methods of the class are found in its lines");
    }
}
