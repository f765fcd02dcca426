import java.io.IOException;
import java.lang.reflect.Field;
import java.lang.reflect.Member;
import java.lang.reflect.Method;
import java.lang.reflect.Modifier;
import java.nio.file.Files;
import java.nio.file.Path;
import java.util.ArrayList;
import java.util.Arrays;
import java.util.HashMap;
import java.util.LinkedHashMap;
import java.util.List;
import java.util.Map;
import java.util.Set;
import java.util.TreeSet;
import java.util.regex.Matcher;
import java.util.regex.Pattern;

/** The public face of the document, and of LANGUAGE.md's rules those that can be read off the text. */
public final class LanguageTest {
    private static final Path SOURCE = Path.of("src/main/java/SafeClosures.java");
    private static final Set<String> FACE = new TreeSet<>(Arrays.asList(
        "int pushNum(int)", "int pushVar(int)", "int pushLam(int)", "int pushApp()", "int pushPrim(int)",
        "int pushIf()", "int pushLet(int)", "int pushLetrec(int,int)", "int run()", "int callResult(int)",
        "void clear()", "int resultKind()", "int resultValue()", "int callsUsed()", "int peakLive()",
        "int freeVars(int)"));
    private static final Set<String> CONSTANTS = new TreeSet<>(Arrays.asList(
        "REFUSED=-1", "OK=0", "ERR_UNBOUND=1", "ERR_TYPE=2", "ERR_NOT_FUNCTION=3", "ERR_FUEL=4", "ERR_DEPTH=5",
        "ERR_MEMORY=6", "KIND_NONE=0", "KIND_INT=1", "KIND_CLOSURE=2", "OP_ADD=0", "OP_SUB=1", "OP_MUL=2",
        "OP_LT=3", "OP_EQ=4", "NO_SECOND=-1", "MAX_NODES=32", "NUM_VARS=8", "FUEL_MIN=1", "FUEL_MAX=100",
        "LIVE_MIN=2", "LIVE_MAX=32", "DEPTH_MIN=4", "DEPTH_MAX=32"));
    private static final String FORBIDDEN = "\\b(import|package|throw|throws|try|catch|synchronized|assert|"
        + "instanceof|float|double|String|Object|Math|Integer|System|Arrays|null|enum|interface|record|extends|"
        + "implements|protected)\\b|->|::|\"|\\[\\s*\\]\\s*\\[|\\bstatic\\s*\\{|\\bwhile\\s*\\(\\s*true\\b|"
        + "\\bfor\\s*\\([^;]*;\\s*;";

    public static void main(String[] args) throws IOException, IllegalAccessException {
        publicFace();
        memberShapes();
        String text = withoutComments(Files.readString(SOURCE));
        forbiddenWords(text);
        Map<String, String> bodies = methodBodies(text);
        arraysAreMadeAtTheStart(text, bodies);
        callsInsideArguments(bodies);
        callDepth(bodies);
        Check.end();
    }

    private static void publicFace() throws IllegalAccessException {
        Class<?> type = SafeClosures.class;
        Check.holds("rule 1: the class is not public and final",
            Modifier.isPublic(type.getModifiers()) && Modifier.isFinal(type.getModifiers()));
        Check.same("rule 1: nested classes", type.getDeclaredClasses().length, 0);
        Check.same("rule 1: constructors", type.getDeclaredConstructors().length, 1);
        Check.holds("rule 1: the constructor's face", type.getConstructors()[0].toString()
            .equals("public SafeClosures(int,int,int)"));
        Set<String> methods = new TreeSet<>();
        Set<String> privates = new TreeSet<>();
        for (Method method : type.getDeclaredMethods()) {
            if (isOpen(method)) {
                methods.add(method.toString().replace("public ", "").replace("SafeClosures.", ""));
            } else {
                privates.add(method.getName());
            }
        }
        Check.holds("rule 1: methods are " + methods, methods.equals(FACE));
        for (String face : FACE) {
            String name = face.substring(face.indexOf(' ') + 1, face.indexOf('('));
            Check.holds("rule 1: a private method is named " + name, !privates.contains(name));
        }
        Set<String> constants = new TreeSet<>();
        for (Field field : type.getDeclaredFields()) {
            if (isOpen(field)) {
                constants.add(field.getName() + "=" + field.getInt(null));
            }
        }
        Check.holds("rule 1: constants are " + constants, constants.equals(CONSTANTS));
    }

    private static boolean isOpen(Member member) {
        return !Modifier.isPrivate(member.getModifiers());
    }

    private static void memberShapes() {
        int fields = 0;
        for (Field field : SafeClosures.class.getDeclaredFields()) {
            Class<?> type = field.getType();
            Class<?> element = type.isArray() ? type.getComponentType() : type;
            boolean isStatic = Modifier.isStatic(field.getModifiers());
            Check.holds("rule 2: type of " + field, element.isPrimitive());
            Check.holds("rule 5: " + field, !isStatic
                || Modifier.isFinal(field.getModifiers()) && (type == int.class || type == long.class));
            Check.holds("rule 4: a method could assign to " + field,
                !type.isArray() || Modifier.isFinal(field.getModifiers()));
            fields += isStatic ? 0 : 1;
        }
        Check.holds("rule 10: fields are " + fields, fields <= 40);
        for (Method method : SafeClosures.class.getDeclaredMethods()) {
            Check.holds("rule 10: parameters of " + method, method.getParameterCount() <= 7);
            Check.holds("rule 4: answer of " + method, method.getReturnType().isPrimitive());
        }
    }

    private static String withoutComments(String text) {
        return text.replaceAll("(?s)/\\*.*?\\*/", "").replaceAll("//[^\n]*", "").replaceAll("'.[^']*'", "0");
    }

    private static void forbiddenWords(String text) {
        Matcher found = Pattern.compile(FORBIDDEN).matcher(text);
        while (found.find()) {
            Check.holds("a forbidden word: " + found.group(), false);
        }
    }

    private static void arraysAreMadeAtTheStart(String text, Map<String, String> bodies) {
        Matcher made = Pattern.compile("\\bnew\\b([^;]*)").matcher(text);
        while (made.find()) {
            Check.holds("rule 4: new" + made.group(1), made.group(1).matches("\\s+[a-z]+\\s*\\[[A-Z0-9_ *+-]+\\]"));
        }
        for (String name : bodies.keySet()) {
            boolean isConstructor = name.equals(SafeClosures.class.getName());
            Check.holds("rule 4: new in " + name, isConstructor || !bodies.get(name).matches("(?s).*\\bnew\\b.*"));
        }
    }

    /** The body of every method and of the constructor by its name, however the text is laid out. */
    private static Map<String, String> methodBodies(String text) {
        Map<String, String> bodies = new LinkedHashMap<>();
        int read = 0;
        int start = text.indexOf('{') + 1;
        for (int at = start; at < text.lastIndexOf('}'); at++) {
            if (text.charAt(at) == ';') {
                start = at + 1;
            } else if (text.charAt(at) == '{') {
                Matcher name = Pattern.compile("(\\w+)\\s*\\(").matcher(text.substring(start, at));
                String body = closed(text, at + 1, '{', '}');
                Check.holds("a body without a name at " + at, name.find());
                Check.holds("rule 10: lines of " + name.group(1), body.split("\n").length <= 65);
                bodies.merge(name.group(1), body, String::concat);
                read++;
                at += body.length() + 1;
                start = at + 1;
            }
        }
        int constructors = SafeClosures.class.getDeclaredConstructors().length;
        Check.same("methods read", read, SafeClosures.class.getDeclaredMethods().length + constructors);
        return bodies;
    }

    private static List<String> called(Map<String, String> bodies, String text) {
        List<String> names = new ArrayList<>();
        Matcher call = Pattern.compile("\\b(\\w+)\\(").matcher(text);
        while (call.find()) {
            if (bodies.containsKey(call.group(1))) {
                names.add(call.group(1));
            }
        }
        return names;
    }

    private static void callsInsideArguments(Map<String, String> bodies) {
        for (Map.Entry<String, String> method : bodies.entrySet()) {
            Matcher call = Pattern.compile("\\b(\\w+)\\(").matcher(method.getValue());
            while (call.find()) {
                if (bodies.containsKey(call.group(1))) {
                    String arguments = closed(method.getValue(), call.end(), '(', ')');
                    Check.holds("rule 10: a call inside the arguments of " + call.group(1) + " in " + method.getKey(),
                        called(bodies, arguments).isEmpty());
                }
            }
        }
    }

    /** The text from a place inside brackets to their end. */
    private static String closed(String text, int from, char left, char right) {
        int open = 1;
        int at = from;
        while (open > 0) {
            open += text.charAt(at) == left ? 1 : text.charAt(at) == right ? -1 : 0;
            at++;
        }
        return text.substring(from, at - 1);
    }

    private static void callDepth(Map<String, String> bodies) {
        Map<String, Integer> depth = new HashMap<>();
        // Each round settles the methods that call settled ones alone; what is never settled is recursive.
        for (int round = 1; round <= bodies.size(); round++) {
            for (String name : bodies.keySet()) {
                List<String> below = called(bodies, bodies.get(name));
                if (depth.keySet().containsAll(below)) {
                    depth.put(name, 1 + below.stream().mapToInt(depth::get).max().orElse(0));
                }
            }
        }
        for (String name : bodies.keySet()) {
            Check.holds("rule 8: recursion through " + name, depth.containsKey(name));
            Check.holds("rule 10: depth of " + name + " is " + depth.get(name), depth.getOrDefault(name, 0) <= 6);
        }
    }
}
