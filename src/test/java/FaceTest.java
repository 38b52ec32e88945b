import java.io.IOException;
import java.lang.reflect.Constructor;
import java.lang.reflect.Field;
import java.lang.reflect.Method;
import java.lang.reflect.Modifier;
import java.nio.file.Files;
import java.nio.file.Path;
import java.util.Map;
import java.util.Set;
import java.util.TreeMap;
import java.util.TreeSet;
import java.util.regex.Matcher;
import java.util.regex.Pattern;

/** The public face of the document, and those rules of LANGUAGE.md that can be read off the source. */
public final class FaceTest {
    private static final Path SOURCE = Path.of("src/main/java/BackAndForth.java");

    private static final String[] METHODS = {
        "number 1", "register 1", "apply 1", "simple 3", "update 2", "seq 0", "tested 1", "discard 0",
        "procedure 1", "load 2", "run 2", "outcome 0", "look 1", "pile 0", "onPile 1", "steps 0",
    };

    private static final String[] CONSTANTS = {
        "BAD_ARG -1", "FULL -2", "TOO_FEW -3", "NONE -4", "BAD_SELF -5",
        "DONE 0", "FAILED 1", "TIRED 2", "DEEP 3",
    };

    private static final String[] FORBIDDEN = {
        "import", "package", "float", "double", "String", "Math", "Integer", "System", "Arrays", "Object",
        "throw", "throws", "try", "catch", "synchronized", "assert", "instanceof", "null", "interface",
        "enum", "record", "protected", "var", "static {", "->", "::",
        "equals", "hashCode", "toString", "getClass", "clone", "notify", "notifyAll", "wait", "finalize",
    };

    private static final Pattern CALL = Pattern.compile("\\b(\\w+)\\(");
    private static final Pattern CALL_WITH_REST =
        Pattern.compile("\\b(?!if\\b|for\\b|while\\b|switch\\b|return\\b)(\\w+)\\(([^;{]*)");
    private static final Pattern METHOD = Pattern.compile(
        "(?ms)^    (?:public|private)(?: static)? \\w+ (\\w+)\\([^)]*\\) \\{\n(.*?)^    \\}");
    private static final String ARRAY_FIELD = "    private final \\w+\\[\\] \\w+ = new \\w+\\[\\w+\\];";

    private static final int DEEPEST = 6;
    private static final int LONGEST = 60;

    private static int wrong = 0;

    private static void must(boolean holds, String what) {
        if (!holds) {
            wrong++;
            System.out.println("not so: " + what);
        }
    }

    public static void main(String[] args) throws IOException, IllegalAccessException {
        Class<?> c = BackAndForth.class;
        must(Modifier.isPublic(c.getModifiers()) && Modifier.isFinal(c.getModifiers()), "public and final");
        must(c.getSuperclass() == Object.class && c.getInterfaces().length == 0, "stands alone");
        must(c.getDeclaredClasses().length == 0, "no nested class");
        constructors(c);
        methods(c);
        fields(c);
        String text = Files.readString(SOURCE);
        String code = text.replaceAll("(?s)/\\*.*?\\*/", " ").replaceAll("//[^\n]*", " ");
        words(code);
        arguments(code);
        madeOnce(code);
        calls(code);
        System.out.println(wrong == 0 ? "the face is as due" : wrong + " things are not as due");
        if (wrong != 0) {
            System.exit(1);
        }
    }

    private static void constructors(Class<?> c) {
        Constructor<?>[] all = c.getDeclaredConstructors();
        must(all.length == 1 && all[0].getParameterCount() == 0, "one constructor without parameters");
        must(Modifier.isPublic(all[0].getModifiers()), "the constructor is public");
    }

    private static void methods(Class<?> c) {
        Set<String> found = new TreeSet<>();
        Set<String> names = new TreeSet<>();
        for (Method m : c.getDeclaredMethods()) {
            if (Modifier.isPublic(m.getModifiers())) {
                found.add(m.getName() + " " + m.getParameterCount());
                names.add(m.getName());
                must(m.getReturnType() == int.class, m.getName() + " answers an int");
                must(!Modifier.isStatic(m.getModifiers()), m.getName() + " is not static");
                for (Class<?> type : m.getParameterTypes()) {
                    must(type == int.class, m.getName() + " takes ints");
                }
            }
        }
        must(found.equals(new TreeSet<>(Set.of(METHODS))), "the public methods are those of the document: " + found);
        for (Method m : c.getDeclaredMethods()) {
            int how = m.getModifiers();
            must(Modifier.isPublic(how) || Modifier.isPrivate(how), m.getName() + " is public or private");
            must(Modifier.isPublic(how) || !names.contains(m.getName()), m.getName() + " bears no public name");
            must(m.getParameterCount() <= 7, m.getName() + " has at most seven parameters");
        }
    }

    private static void fields(Class<?> c) throws IllegalAccessException {
        Set<String> found = new TreeSet<>();
        int state = 0;
        for (Field f : c.getDeclaredFields()) {
            int how = f.getModifiers();
            Class<?> type = f.getType();
            if (Modifier.isPublic(how)) {
                must(Modifier.isStatic(how) && Modifier.isFinal(how), f.getName() + " is a constant");
                found.add(f.getName() + " " + f.getInt(null));
            } else {
                must(Modifier.isPrivate(how), f.getName() + " is private");
            }
            if (Modifier.isStatic(how)) {
                must(Modifier.isFinal(how) && (type == int.class || type == long.class), f.getName() + " is a number");
            } else {
                state++;
                Class<?> part = type.isArray() ? type.getComponentType() : type;
                must(part.isPrimitive(), f.getName() + " is of a plain type");
            }
        }
        must(found.equals(new TreeSet<>(Set.of(CONSTANTS))), "the constants are those of the document: " + found);
        must(state <= 40, "at most some forty fields: " + state);
    }

    private static void words(String code) {
        for (String word : FORBIDDEN) {
            boolean isWord = word.matches("\\w+");
            Matcher m = Pattern.compile(isWord ? "\\b" + word + "\\b" : Pattern.quote(word)).matcher(code);
            must(!m.find(), "no " + word);
        }
        // Constants are in capitals throughout, so that this finds the names of classes.
        Matcher named = Pattern.compile("\\b[A-Z]\\w*[a-z]\\w*\\b").matcher(code);
        while (named.find()) {
            must(named.group().equals("BackAndForth"), "no other class: " + named.group());
        }
    }

    /** A call among the arguments of another call; what decides and loops is no call. */
    private static void arguments(String code) {
        Matcher nested = CALL_WITH_REST.matcher(code);
        while (nested.find()) {
            boolean hasCall = CALL.matcher(argumentsOf(nested.group(2))).find();
            must(!hasCall, "no call in the arguments of " + nested.group(1));
            nested.region(nested.start(2), code.length());
        }
    }

    private static void madeOnce(String code) {
        Matcher made = Pattern.compile("\\bnew\\b").matcher(code);
        while (made.find()) {
            String line = code.substring(code.lastIndexOf('\n', made.start()) + 1, code.indexOf('\n', made.start()));
            must(line.matches(ARRAY_FIELD), "made in an initialiser: " + line);
        }
    }

    /** How long the methods are and how deep their calls go: in a circle they would go on for ever. */
    private static void calls(String code) {
        Map<String, String> bodies = new TreeMap<>();
        Matcher method = METHOD.matcher(code);
        while (method.find()) {
            must(bodies.put(method.group(1), method.group(2)) == null, method.group(1) + " is there once");
            must(method.group(2).lines().count() <= LONGEST, method.group(1) + " is short");
        }
        int declared = BackAndForth.class.getDeclaredMethods().length;
        must(bodies.size() == declared, "all methods were read: " + bodies.keySet());
        Set<String> reached = bodies.keySet();
        for (int depth = 1; depth <= DEEPEST; depth++) {
            reached = calledBy(reached, bodies);
        }
        must(reached.isEmpty(), "calls go at most six deep, but these are reached: " + reached);
    }

    private static Set<String> calledBy(Set<String> callers, Map<String, String> bodies) {
        Set<String> called = new TreeSet<>();
        for (String caller : callers) {
            Matcher call = CALL.matcher(bodies.get(caller));
            while (call.find()) {
                if (bodies.containsKey(call.group(1))) {
                    called.add(call.group(1));
                }
            }
        }
        return called;
    }

    /** What stands before the bracket that closes the call. */
    private static String argumentsOf(String rest) {
        int open = 1;
        for (int i = 0; i < rest.length(); i++) {
            open += rest.charAt(i) == '(' ? 1 : rest.charAt(i) == ')' ? -1 : 0;
            if (open == 0) {
                return rest.substring(0, i);
            }
        }
        return rest;
    }
}
