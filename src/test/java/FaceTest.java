import java.io.IOException;
import java.lang.reflect.Constructor;
import java.lang.reflect.Field;
import java.lang.reflect.Method;
import java.lang.reflect.Modifier;
import java.nio.file.Files;
import java.nio.file.Path;
import java.util.ArrayList;
import java.util.Arrays;
import java.util.Collections;
import java.util.List;
import java.util.Set;
import java.util.TreeSet;
import java.util.regex.Pattern;

/** The face is that of the document, and the source keeps to what LANGUAGE.md lets be read off it. */
public final class FaceTest {
    private static final String INDEX = "IndexOutOfBoundsException";
    private static final String ARGUMENT = "IllegalArgumentException";
    private static final String STATE = "IllegalStateException";
    private static int wrong = 0;

    private static final List<String> FACE = List.of(
        "int module() " + STATE,
        "int declare(int,int,int,boolean,int,int,int) " + INDEX + " " + ARGUMENT + " " + STATE,
        "boolean drop(int,int) " + INDEX + " " + ARGUMENT,
        "int bring(int,int,int,int,boolean) " + INDEX + " " + ARGUMENT + " " + STATE,
        "int leave(int,int) " + INDEX,
        "int ofModule(int,int) " + INDEX + " " + ARGUMENT,
        "int within(int,int,int) " + INDEX + " " + ARGUMENT,
        "int outside(int,int,int) " + INDEX + " " + ARGUMENT,
        "int build(int) " + ARGUMENT,
        "int why(int,int) " + INDEX + " " + ARGUMENT,
        "int built(int,int,int) " + INDEX + " " + ARGUMENT,
        "int fault(int,int) " + INDEX + " " + ARGUMENT,
        "int run(int,int) " + INDEX + " " + ARGUMENT,
        "int many(int) " + ARGUMENT,
        "double fetchedPart() ",
        "int wouldBuild() ",
        "int builtBy(int,int,int) " + INDEX + " " + ARGUMENT,
        "int rounds(int) " + ARGUMENT,
        "boolean isAsNew() ",
        "long digest() ");

    /** What LANGUAGE.md leaves out, or what this source does without, as it would stand in it. */
    private static final List<String> NOT_THERE = List.of("^package\\b", "->", "::", "\\bfinally\\b",
        "\\bsynchronized\\b", "\\bassert\\b", "\\btry\\b", "\\bcatch\\b", "System\\.(?!arraycopy)", "Random", "Exact\\(", "\\bObject\\b",
        "hashCode", "Thread", "\\bString\\b");

    public static void main(String[] args) throws IOException {
        face();
        names();
        source();
        System.out.println(wrong == 0 ? "the face is that of the document" : wrong + " wrong");
        if (wrong != 0) System.exit(1);
    }

    private static void need(boolean isMet, String what) {
        if (!isMet) {
            wrong++;
            System.out.println(what);
        }
    }

    private static String types(Class<?>[] types, String between) {
        List<String> names = new ArrayList<>();
        for (Class<?> type : types) names.add(type.getSimpleName());
        return String.join(between, names);
    }

    private static void face() {
        Class<CutoffMill> mill = CutoffMill.class;
        need(mill.getModifiers() == (Modifier.PUBLIC | Modifier.FINAL), "the class is not public and final only");
        List<String> there = new ArrayList<>();
        for (Method m : mill.getDeclaredMethods()) {
            if (Modifier.isPrivate(m.getModifiers())) continue;
            need(m.getModifiers() == Modifier.PUBLIC, m + " is not public only");
            there.add(m.getReturnType().getSimpleName() + " " + m.getName() + "(" + types(m.getParameterTypes(), ",") + ") "
                + types(m.getExceptionTypes(), " "));
        }
        List<String> due = new ArrayList<>(FACE);
        Collections.sort(due);
        Collections.sort(there);
        need(there.equals(due), "the face is " + there);
        Constructor<?>[] constructors = mill.getDeclaredConstructors();
        need(constructors.length == 1 && constructors[0].getModifiers() == Modifier.PUBLIC
            && constructors[0].getParameterCount() == 0, "the constructors are " + Arrays.toString(constructors));
        for (Field f : mill.getDeclaredFields()) need(Modifier.isPrivate(f.getModifiers()), f + " is not private");
    }

    private static void names() {
        Set<String> face = new TreeSet<>();
        for (String line : FACE) face.add(line.substring(line.indexOf(' ') + 1, line.indexOf('(')));
        List<Class<?>> all = new ArrayList<>(List.of(CutoffMill.class.getDeclaredClasses()));
        need(all.size() <= 12, "there are " + all.size() + " classes inside");
        for (Class<?> inside : all) {
            need(Modifier.isStatic(inside.getModifiers()) && !Modifier.isPublic(inside.getModifiers()), inside + " is not as it should be");
        }
        all.add(CutoffMill.class);
        for (Class<?> type : all) {
            for (Method m : type.getDeclaredMethods()) {
                boolean isFace = type == CutoffMill.class && Modifier.isPublic(m.getModifiers());
                need(isFace || !face.contains(m.getName()), m + " bears a name of the face");
                need(m.getParameterCount() <= 7, m + " takes too much");
            }
            int fields = 0;
            for (Field f : type.getDeclaredFields()) if (!Modifier.isStatic(f.getModifiers())) fields++;
            need(fields <= 20, type + " has " + fields + " fields");
            for (Field f : type.getDeclaredFields()) {
                need(!Modifier.isStatic(f.getModifiers()) || Modifier.isFinal(f.getModifiers()), f + " is static, but not final");
            }
        }
    }

    private static void source() throws IOException {
        List<String> lines = Files.readAllLines(Path.of("src/main/java/CutoffMill.java"));
        for (String line : lines) {
            String code = line.replaceAll("\"[^\"]*\"", "\"\"").replaceAll("//.*", "").replaceAll("^\\s*/?\\*.*", "");
            for (String word : NOT_THERE) need(!Pattern.compile(word).matcher(code).find(), "not of the language: " + line);
            need(!code.startsWith("import ") || code.equals("import java.util.Arrays;"), "not of the library: " + line);
            for (char sign : line.toCharArray()) need(sign < 128, "a sign that is none of the first 127: " + line);
        }
    }
}
