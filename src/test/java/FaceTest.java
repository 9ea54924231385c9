import java.io.IOException;
import java.lang.reflect.Constructor;
import java.lang.reflect.Field;
import java.lang.reflect.Method;
import java.lang.reflect.Modifier;
import java.nio.file.Files;
import java.nio.file.Path;
import java.util.ArrayList;
import java.util.Arrays;
import java.util.List;
import java.util.Map;
import java.util.TreeMap;
import java.util.TreeSet;
import java.util.regex.Matcher;
import java.util.regex.Pattern;

/** The public face, and those rules of LANGUAGE.md that can be read off the class and its source. */
public final class FaceTest {
    private static final Due due = new Due();
    private static final Path SOURCE = Path.of("src/main/java/SeamCell.java");

    public static void main(String[] args) throws IOException {
        constants();
        methods();
        members();
        inside();
        source();
        due.end();
    }

    private static void constants() {
        due.is(-1, SeamCell.UNKNOWN, "UNKNOWN");
        due.is(-2, SeamCell.OUTSIDE, "OUTSIDE");
        due.is(-3, SeamCell.STATE, "STATE");
        due.is(-4, SeamCell.FULL, "FULL");
        due.is(-5, SeamCell.NO, "NO");
        due.is(-6, SeamCell.NONE, "NONE");
    }

    private static void methods() {
        TreeMap<String, Integer> want = new TreeMap<>();
        String all = "table 2 arm 2 rules 2 times 4 home 2 bar 4 seam 6 clear 1 about 2 lacks 2 near 2 free 4 "
            + "add 2 row 2 total 0 best 0 touch 4 shut 2 shift 0 shifted 1 act 3 run 0 ran 1 web 0 lock 1 told 1";
        String[] words = all.split(" ");
        for (int i = 0; i < words.length; i += 2) want.put(words[i], Integer.valueOf(words[i + 1]));
        TreeMap<String, Integer> got = new TreeMap<>();
        for (Method method : SeamCell.class.getDeclaredMethods()) {
            if (Modifier.isPrivate(method.getModifiers()) || method.isSynthetic()) continue;
            due.holds(got.put(method.getName(), method.getParameterCount()) == null, "twice: " + method);
            due.holds(method.getModifiers() == Modifier.PUBLIC, "not plainly public: " + method);
            due.holds(method.getReturnType() == int.class, "answers no int: " + method);
            for (Class<?> type : method.getParameterTypes()) due.holds(type == int.class, "takes no int: " + method);
        }
        due.holds(got.equals(want), "the public methods are " + got);
    }

    private static void members() {
        due.holds(SeamCell.class.getModifiers() == (Modifier.PUBLIC | Modifier.FINAL), "not public and final");
        Constructor<?>[] constructors = SeamCell.class.getDeclaredConstructors();
        due.is(1, constructors.length, "how many constructors");
        due.holds(Modifier.isPublic(constructors[0].getModifiers()), "the constructor is not public");
        due.is(0, constructors[0].getParameterCount(), "what the constructor takes");
        int shown = 0;
        for (Field field : SeamCell.class.getDeclaredFields()) {
            int kind = field.getModifiers();
            if (Modifier.isPublic(kind)) shown++;
            due.holds(Modifier.isPublic(kind) || Modifier.isPrivate(kind), "neither public nor private: " + field);
        }
        due.is(6, shown, "how many public constants");
    }

    private static void inside() {
        TreeSet<String> face = new TreeSet<>();
        for (Method method : SeamCell.class.getDeclaredMethods()) {
            if (Modifier.isPublic(method.getModifiers())) face.add(method.getName());
        }
        List<Class<?>> classes = new ArrayList<>(Arrays.asList(SeamCell.class.getDeclaredClasses()));
        due.holds(classes.size() + 1 <= 12, "too many classes: " + classes.size());
        for (Class<?> each : classes) {
            due.holds(Modifier.isStatic(each.getModifiers()), "not static: " + each);
            for (Method method : each.getDeclaredMethods()) {
                due.holds(!face.contains(method.getName()), "bears a name of the face: " + method);
                due.holds(method.getParameterCount() <= 7, "takes too much: " + method);
            }
        }
        classes.add(SeamCell.class);
        for (Class<?> each : classes) {
            int own = 0;
            for (Field field : each.getDeclaredFields()) {
                boolean isStatic = Modifier.isStatic(field.getModifiers());
                due.holds(!isStatic || Modifier.isFinal(field.getModifiers()), "static and not final: " + field);
                if (!isStatic) own++;
            }
            due.holds(own <= 20, "too many fields: " + each);
        }
    }

    private static void source() throws IOException {
        String text = Files.readString(SOURCE);
        String code = text.replaceAll("(?s)/\\*.*?\\*/", "").replaceAll("//[^\n]*", "");
        String[] ruledOut = {"\\bthrow", "\\btry\\b", "\\bcatch\\b", "\\bsynchronized\\b", "\\bassert\\b", "->", "::",
            "\\bvar\\b", "\\bprotected\\b", "Exact\\b", "\\bpackage\\b", "\\bnative\\b", "\\bThread", "\\bSystem\\.(?!arraycopy)",
            "\\bdouble\\b", "\\bfloat\\b", "static\\s*\\{", "while \\(true\\)", "for \\(;;\\)"};
        for (String each : ruledOut) {
            Matcher matcher = Pattern.compile(each).matcher(code);
            due.holds(!matcher.find(), "the source has what is ruled out: " + each);
        }
        Matcher imports = Pattern.compile("import ([^;]+);").matcher(code);
        while (imports.find()) {
            due.holds(List.of("java.util.Arrays").contains(imports.group(1)), "imports " + imports.group(1));
        }
        library(code);
        lengths(code.split("\n"));
        TreeMap<String, String> bodies = bodies(code.split("\n"));
        makesNothing(bodies);
        depths(bodies);
    }

    /** Rule 4: only what stands there, so neither a constant of Integer nor any other class. */
    private static void library(String code) {
        TreeSet<String> used = new TreeSet<>();
        Matcher matcher = Pattern.compile("(?<![.\\w])([A-Z][a-z]\\w*\\.\\w+)").matcher(code);
        while (matcher.find()) used.add(matcher.group(1));
        TreeSet<String> listed = new TreeSet<>(List.of("Math.abs", "Math.max", "Math.min", "Arrays.fill"));
        for (String each : used) due.holds(listed.contains(each), "rule 4 has no " + each);
    }

    /** A method opens behind 4 or 8 spaces and is shut by a brace behind as many. */
    private static void lengths(String[] lines) {
        for (int from = 0; from < lines.length; from++) {
            Matcher opens = Pattern.compile("^( {4}| {8})(?! )(?!.*\\bclass\\b).*\\) \\{$").matcher(lines[from]);
            if (!opens.find()) continue;
            due.holds(shut(lines, from, opens.group(1)) - from < 60, "too long: " + lines[from].trim());
        }
    }

    private static int shut(String[] lines, int from, String indent) {
        int to = from;
        while (to < lines.length && !lines[to].equals(indent + "}")) to++;
        return to;
    }

    /** What stands in all methods and constructors that bear a name. */
    private static TreeMap<String, String> bodies(String[] lines) {
        TreeMap<String, String> bodies = new TreeMap<>();
        Pattern opening = Pattern.compile("^( {4}| {8})(?:[\\w\\[\\]]+ )*(\\w+)\\([^()]*\\) \\{$");
        for (int from = 0; from < lines.length; from++) {
            Matcher opens = opening.matcher(lines[from]);
            if (!opens.find()) continue;
            int to = shut(lines, from, opens.group(1));
            String body = String.join("\n", Arrays.copyOfRange(lines, from + 1, to));
            bodies.merge(opens.group(2), body, (one, other) -> one + "\n" + other);
        }
        for (Method method : SeamCell.class.getDeclaredMethods()) {
            due.holds(method.isSynthetic() || bodies.containsKey(method.getName()), "not found: " + method);
        }
        return bodies;
    }

    /** All is made in constructors, so that the calls of a long run make no object more. */
    private static void makesNothing(Map<String, String> bodies) {
        for (Map.Entry<String, String> each : bodies.entrySet()) {
            boolean isConstructor = Character.isUpperCase(each.getKey().charAt(0));
            boolean makes = Pattern.compile("\\bnew\\b|\\.clone\\(|copyOf").matcher(each.getValue()).find();
            due.holds(isConstructor || !makes, "makes an object: " + each.getKey());
        }
    }

    /** Rule 11: calls that are no recursion go at most eight deep. */
    private static void depths(Map<String, String> bodies) {
        for (String name : bodies.keySet()) {
            int depth = deepest(bodies, name, new ArrayList<>());
            due.holds(depth <= 8, name + " goes " + depth + " deep");
        }
    }

    /** How many calls stand open at most, this one counted; what calls itself counts once. */
    private static int deepest(Map<String, String> bodies, String name, List<String> open) {
        due.holds(!open.contains(name), "a ring of calls: " + open + " " + name);
        if (open.contains(name)) return 0;
        open.add(name);
        int below = bodies.get(name).contains("Math.") || bodies.get(name).contains("Arrays.") ? 1 : 0;
        for (String other : bodies.keySet()) {
            boolean calls = Pattern.compile("\\b" + other + "\\(").matcher(bodies.get(name)).find();
            if (calls && !other.equals(name)) below = Math.max(below, deepest(bodies, other, open));
        }
        open.remove(name);
        return below + 1;
    }
}
