import java.lang.reflect.Constructor;
import java.lang.reflect.Field;
import java.lang.reflect.Method;
import java.lang.reflect.Modifier;
import java.nio.file.Files;
import java.nio.file.Path;
import java.util.ArrayList;
import java.util.Arrays;
import java.util.List;
import java.util.Set;
import java.util.TreeSet;
import java.util.regex.Matcher;
import java.util.regex.Pattern;

/** The class's face, and the rules of LANGUAGE.md that can be seen from outside or in its source. */
public final class LanguageTest extends Sheet {
    private static final String FACE = """
        int feed(int, int, int, int, int)
        int sea(int)
        int fault(int)
        int current(int, int)
        int person(int, int)
        int shell(int, int)
        int word(int, int)
        int sound(int, int)
        int seed(int)
        int whisper(int)
        int give(int, int)
        int lay(int)
        int gale(int)
        int hours(int)
        int undo(int)
        int judge(int, int)
        int perform(int)
        int days(int, int)
        int comesIn(int, int)
        int hearsIn(int, int)
        int heard(int, int)
        int loudest(int)
        int hearers(int, int, int)
        int far(int, int)
        int reaches(int, int)
        int secret(int, int, int)
        int widest(int)
        int shut(int, int, int, int)
        int take(int, int, int, int)
        int needs(int, int)
        int spies(int, int, int)
        int watch(int)
        int hears(int)
        int mutual()
        int passes(int, int)
        int gift()
        int fits(int)
        int slips(int, int)
        int likeliest(int)
        int look(int)
        int unlike(int, int)
        int pairs(int)
        int numbers(int, int, int)
        long write(int, int, long)
        int lists(int, int)
        int image(int)
        int restore(int)
        int count(int)
        """;

    public static void main(String[] args) throws Exception {
        about("language");
        face();
        classesInside();
        String path = System.getProperty("hallshells.source", "src/main/java/HallShells.java");
        source(withoutComments(Files.readString(Path.of(path))));
        end("the language is kept to");
    }

    private static void face() {
        Class<?> c = HallShells.class;
        must(c.getModifiers() == (Modifier.PUBLIC | Modifier.FINAL), "the class is public and final");
        Set<String> due = new TreeSet<>(Arrays.asList(FACE.strip().split("\\s*\n\\s*")));
        Set<String> found = new TreeSet<>();
        for (Method m : c.getDeclaredMethods()) {
            if (Modifier.isPublic(m.getModifiers())) {
                List<String> types = new ArrayList<>();
                for (Class<?> t : m.getParameterTypes()) {
                    types.add(t.getName());
                }
                found.add(m.getReturnType().getName() + " " + m.getName() + "(" + String.join(", ", types) + ")");
            } else {
                must(Modifier.isPrivate(m.getModifiers()), m + " is neither public nor private");
            }
        }
        must(found.equals(due), "the public methods are " + found);
        for (Field f : c.getDeclaredFields()) {
            boolean none = f.getName().equals("NONE") && Modifier.isPublic(f.getModifiers());
            must(none || Modifier.isPrivate(f.getModifiers()), f + " isn't private");
        }
        Constructor<?>[] made = c.getDeclaredConstructors();
        must(made.length == 1 && made[0].getParameterCount() == 0 && Modifier.isPublic(made[0].getModifiers()),
            "one public constructor without parameters");
    }

    private static void classesInside() {
        Set<String> names = new TreeSet<>();
        for (Method m : HallShells.class.getMethods()) {
            names.add(m.getName());
        }
        Class<?>[] inside = HallShells.class.getDeclaredClasses();
        must(inside.length <= 11, inside.length + " classes inside");
        for (Class<?> c : inside) {
            must(Modifier.isStatic(c.getModifiers()), c + " isn't static");
            must(!Modifier.isPublic(c.getModifiers()) && !Modifier.isProtected(c.getModifiers()), c + " can be seen");
            must(fields(c) <= 20, c + " has too many fields");
            for (Method m : c.getDeclaredMethods()) {
                must(!names.contains(m.getName()), m + " bears the name of a public one");
                must(m.getParameterCount() <= 7, m + " takes too many");
            }
        }
        must(fields(HallShells.class) <= 20, "the class has too many fields");
    }

    private static int fields(Class<?> c) {
        int fields = 0;
        for (Field f : c.getDeclaredFields()) {
            boolean fixed = Modifier.isStatic(f.getModifiers());
            fields += fixed ? 0 : 1;
            must(!fixed || Modifier.isFinal(f.getModifiers()), f + " isn't final");
        }
        return fields;
    }

    private static String withoutComments(String source) {
        return source.replaceAll("(?s)/\\*.*?\\*/", "").replaceAll("//[^\n]*", "");
    }

    private static void source(String source) {
        for (String word : new String[] {"throw", "try", "catch", "synchronized", "assert", "package", "protected",
            "hashCode", "toString", "System\\.out", "Random", "currentTimeMillis", "nanoTime", "Thread"}) {
            must(!Pattern.compile("\\b" + word + "\\b").matcher(source).find(), word + " stands in the source");
        }
        must(!source.contains("->") && !source.contains("::"), "a lambda or a method reference");
        Matcher imports = Pattern.compile("import ([^;]*);").matcher(source);
        while (imports.find()) {
            must(imports.group(1).equals("java.util.Arrays"), imports.group());
        }
        Matcher calls = Pattern.compile("\\b(Math|Integer|Long|System|Arrays)\\.(\\w+)").matcher(source);
        List<String> allowed = List.of("Math.max", "Math.min", "Math.floorMod", "Integer.bitCount", "System.arraycopy",
            "Arrays.fill");
        while (calls.find()) {
            must(allowed.contains(calls.group()), calls.group());
        }
        methodLengths(source);
    }

    private static void methodLengths(String source) {
        String[] lines = source.split("\n");
        for (int i = 0; i < lines.length; i++) {
            Matcher head = Pattern.compile("^( {4}| {8})[^ }].*\\) \\{$").matcher(lines[i]);
            if (head.find()) {
                int end = i;
                while (end < lines.length && !lines[end].equals(head.group(1) + "}")) {
                    end++;
                }
                must(end - i <= 60, "a long method: " + lines[i]);
            }
        }
    }
}
