import java.io.IOException;
import java.lang.reflect.Constructor;
import java.lang.reflect.Field;
import java.lang.reflect.Method;
import java.lang.reflect.Modifier;
import java.nio.file.Files;
import java.nio.file.Path;
import java.util.ArrayDeque;
import java.util.Arrays;
import java.util.Deque;
import java.util.LinkedHashMap;
import java.util.Map;
import java.util.Set;
import java.util.TreeSet;
import java.util.regex.Matcher;
import java.util.regex.Pattern;

/** Checks those rules of LANGUAGE.md that can be read off the class and its text, and the public face. */
public final class LanguageTest {
    private static final Path SOURCE = Path.of("src/main/java/SymmetricChecker.java");
    private static final Set<String> FACE = Set.of("processes()", "limit()", "addRule(int,int,int,int)",
            "dropRule(int)", "addAlarm(int,int,int)", "clearAlarms()", "rules()", "reachable()", "depth(int)",
            "radius()", "layer(int)", "badStates()", "violation()", "stuckStates()", "choices(int)",
            "follows(int,int)", "trace(int)", "endless()");
    private static final Pattern FORBIDDEN = Pattern.compile("\\b(import|package|float|double|throw|throws|try|catch"
            + "|finally|synchronized|assert|instanceof|null|class\\s+\\w+\\s*extends|interface|enum|record|var"
            + "|String|Math|Integer|System|Arrays|Object|Override|clone|length)\\b|->|::|\"|static\\s*\\{|@");
    private static final Pattern METHOD = Pattern.compile("(?m)^    (?:public|private)(?: static)?(?: \\w+)? (\\w+)\\([^)]*\\) \\{$");
    private static final Set<String> NOT_CALLS = Set.of("if", "for", "while", "switch", "return");

    private static int wrong = 0;

    private static void hold(boolean holds, int rule, String what) {
        if (!holds) {
            wrong++;
            System.out.println("rule " + rule + ": " + what);
        }
    }

    public static void main(String[] args) throws IOException {
        members();
        String text = Files.readString(SOURCE).replaceAll("(?s)/\\*.*?\\*/", "").replaceAll("//[^\n]*", "");
        words(text);
        arrays(text);
        nestedCalls(text);
        methods(text);
        System.out.println(wrong == 0 ? "the rules hold" : wrong + " breaches");
        if (wrong != 0) {
            System.exit(1);
        }
    }

    private static void members() {
        Class<?> c = SymmetricChecker.class;
        hold(Modifier.isPublic(c.getModifiers()) && Modifier.isFinal(c.getModifiers()), 1, "public and final");
        hold(c.getDeclaredClasses().length == 0, 1, "no nested class");
        Constructor<?>[] made = c.getDeclaredConstructors();
        hold(made.length == 1 && Modifier.isPublic(made[0].getModifiers())
                && Arrays.equals(made[0].getParameterTypes(), new Class<?>[] {int.class}), 1, "one public constructor");
        Set<String> face = new TreeSet<>();
        Set<String> faceNames = new TreeSet<>();
        for (Method m : c.getDeclaredMethods()) {
            if (Modifier.isPublic(m.getModifiers())) {
                String shown = m.toString();
                face.add(shown.substring(shown.indexOf(".") + 1));
                faceNames.add(m.getName());
                hold(m.getReturnType() == int.class && !Modifier.isStatic(m.getModifiers()), 1, shown);
            }
        }
        hold(face.equals(FACE), 1, "the public methods are " + face);
        for (Method m : c.getDeclaredMethods()) {
            boolean isPrivate = Modifier.isPrivate(m.getModifiers());
            hold(isPrivate || Modifier.isPublic(m.getModifiers()), 1, m + " is neither public nor private");
            hold(!isPrivate || !faceNames.contains(m.getName()), 1, m + " bears a public name");
            hold(!m.getReturnType().isArray(), 4, m + " answers an array");
            hold(m.getParameterCount() <= 7, 10, m + " has too many parameters");
        }
        fields(c.getDeclaredFields());
    }

    private static void fields(Field[] fields) {
        int varying = 0;
        for (Field f : fields) {
            hold(Modifier.isPrivate(f.getModifiers()), 1, f + " is not private");
            Class<?> type = f.getType().isArray() ? f.getType().getComponentType() : f.getType();
            hold(type.isPrimitive() && type != float.class && type != double.class, 2, f + " has another type");
            if (Modifier.isStatic(f.getModifiers())) {
                boolean number = f.getType() == int.class || f.getType() == long.class;
                hold(number && Modifier.isFinal(f.getModifiers()), 5, f + " is not a constant");
            } else {
                varying++;
            }
        }
        hold(varying <= 40, 10, "too many fields");
    }

    private static void words(String text) {
        Matcher m = FORBIDDEN.matcher(text);
        while (m.find()) {
            hold(false, 3, "the text holds " + m.group());
        }
    }

    private static void arrays(String text) {
        for (String line : text.split("\n")) {
            boolean field = line.matches("    private final \\w+\\[\\] \\w+ = new \\w+\\[[A-Z_]+\\];");
            hold(field || !line.matches(".*\\bnew\\b.*"), 4, "an object is made outside a field's line: " + line);
        }
    }

    private static void nestedCalls(String text) {
        Deque<Boolean> open = new ArrayDeque<>();
        int body = text.indexOf('{');
        for (int at = body; at < text.length(); at++) {
            if (text.charAt(at) == '(') {
                Matcher name = Pattern.compile("(\\w+)$").matcher(text.substring(body, at));
                boolean call = name.find() && !NOT_CALLS.contains(name.group(1));
                hold(!call || !open.contains(true), 10, "a call inside the arguments of another near " + at);
                open.push(call);
            } else if (text.charAt(at) == ')') {
                open.pop();
            }
        }
    }

    private static void methods(String text) {
        Map<String, String> bodies = new LinkedHashMap<>();
        Matcher m = METHOD.matcher(text);
        while (m.find()) {
            String body = text.substring(m.end(), text.indexOf("\n    }\n", m.end()));
            hold(bodies.put(m.group(1), body) == null, 10, m.group(1) + " is there twice");
            hold(body.lines().count() <= 60, 10, m.group(1) + " is too long");
        }
        hold(bodies.size() == SymmetricChecker.class.getDeclaredMethods().length + 1, 10, "not all methods were seen");
        for (String name : bodies.keySet()) {
            int deep = depth(name, bodies, 1);
            hold(deep <= 6, 10, name + " calls " + deep + " deep, or without end");
        }
    }

    private static int depth(String name, Map<String, String> bodies, int above) {
        int deepest = above;
        for (String called : bodies.keySet()) {
            boolean calls = Pattern.compile("\\b" + called + "\\(").matcher(bodies.get(name)).find();
            if (calls && above <= 6) {
                deepest = Math.max(deepest, depth(called, bodies, above + 1));
            }
        }
        return deepest;
    }
}
