import java.io.IOException;
import java.lang.reflect.Field;
import java.lang.reflect.Method;
import java.lang.reflect.Modifier;
import java.nio.file.Files;
import java.nio.file.Path;
import java.util.ArrayDeque;
import java.util.Arrays;
import java.util.Deque;
import java.util.HashSet;
import java.util.Map;
import java.util.Set;
import java.util.TreeMap;
import java.util.TreeSet;
import java.util.regex.Matcher;
import java.util.regex.Pattern;

/** The public face of the document, and the rules of LANGUAGE.md that a look at the class can tell. */
public final class RulesTest {
    private static final Path SOURCE = Path.of("src/main/java/SupplyDesk.java");
    private static final Set<String> FACE = Set.of(
            "int add(int, int, int)", "boolean remove(int)", "boolean change(int, int)",
            "boolean balance(int, int)", "int lines()", "boolean possible()", "int least()",
            "int greatest()", "int first(int)", "int range(int, int)", "boolean unique()",
            "int leastWith(int, int)", "int worth(int)", "int shifted(int, int)", "int spare(int, int)");
    private static final Set<String> CONSTANTS = Set.of("BAD", "FULL", "NONE");
    private static final Pattern METHOD = Pattern.compile(
            "\\n    (?:public|private) (?:static )?(?:\\w+ )?(\\w+)\\(([^)]*)\\) \\{\\n(.*?)(?<=\\n)    \\}\\n", Pattern.DOTALL);

    private static int wrong = 0;

    public static void main(String[] args) throws IOException {
        publicFace();
        privateMembers();
        String code = withoutComments(Files.readString(SOURCE));
        words(code);
        namesOfClasses(code);
        loops(code);
        arraysMadeInFields(code);
        methods(code);
        callsInArguments(code);
        System.out.println(wrong == 0 ? "all rules are kept" : wrong + " rules are not kept");
        if (wrong != 0) {
            System.exit(1);
        }
    }

    private static void need(String rule, boolean kept) {
        if (!kept) {
            wrong++;
            System.out.println("not kept: " + rule);
        }
    }

    private static void publicFace() {
        Class<?> c = SupplyDesk.class;
        need("the class is public and final", c.getModifiers() == (Modifier.PUBLIC | Modifier.FINAL));
        need("no package", c.getPackageName().isEmpty());
        need("nothing is extended", c.getSuperclass() == Object.class && c.getInterfaces().length == 0);
        need("no nested class", c.getDeclaredClasses().length == 0);
        need("one constructor", c.getDeclaredConstructors().length == 1);
        need("it is public, without parameters", c.getConstructors().length == 1
                && c.getConstructors()[0].getParameterCount() == 0);
        Set<String> seen = new HashSet<>();
        for (Method m : c.getDeclaredMethods()) {
            if (m.getModifiers() == Modifier.PUBLIC) {
                seen.add(signature(m));
            }
        }
        need("the public methods are those of the document: " + seen, seen.equals(FACE));
    }

    private static String signature(Method m) {
        String types = Arrays.toString(m.getParameterTypes());
        return m.getReturnType() + " " + m.getName() + "(" + types.substring(1, types.length() - 1) + ")";
    }

    private static void privateMembers() {
        Set<String> names = new HashSet<>();
        for (Method m : SupplyDesk.class.getDeclaredMethods()) {
            need(m + " is public or private", Modifier.isPublic(m.getModifiers()) || Modifier.isPrivate(m.getModifiers()));
            need(m + " bears a name of its own", names.add(m.getName()));
            need(m + " has at most seven parameters", m.getParameterCount() <= 7);
            need(m + " answers no array", !m.getReturnType().isArray());
        }
        int fields = 0;
        for (Field f : SupplyDesk.class.getDeclaredFields()) {
            boolean constant = Modifier.isStatic(f.getModifiers());
            boolean open = CONSTANTS.contains(f.getName());
            need(f + " is private or the document's", open ? Modifier.isPublic(f.getModifiers())
                    && constant && f.getType() == int.class : Modifier.isPrivate(f.getModifiers()));
            need(f + " is a constant number if static", !constant || Modifier.isFinal(f.getModifiers())
                    && (f.getType() == int.class || f.getType() == long.class));
            Class<?> type = f.getType().isArray() ? f.getType().getComponentType() : f.getType();
            need(f + " holds whole numbers or truths", type.isPrimitive() && type != float.class && type != double.class);
            fields += constant ? 0 : 1;
        }
        need("at most forty fields", fields <= 40);
    }

    private static String withoutComments(String text) {
        return text.replaceAll("(?s)/\\*.*?\\*/", "").replaceAll("//[^\\n]*", "");
    }

    private static void words(String code) {
        String[] banned = {"import", "package", "float", "double", "null", "throw", "throws", "try", "catch",
            "finally", "synchronized", "assert", "instanceof", "enum", "interface", "record", "var", "protected",
            "String", "Math", "Integer", "Long", "System", "Arrays", "Object", "Character", "Boolean",
            "toString", "equals", "hashCode", "getClass", "clone", "length", "native", "volatile", "transient"};
        for (String word : banned) {
            need("no word " + word, !Pattern.compile("\\b" + word + "\\b").matcher(code).find());
        }
        need("no lambda, method reference, text or annotation", !code.contains("->") && !code.contains("::")
                && !code.contains("\"") && !code.contains("@"));
    }

    /** Whatever begins with a great letter and isn't the class or a constant of it is of the library. */
    private static void namesOfClasses(String code) {
        Set<String> own = new HashSet<>(Set.of("SupplyDesk"));
        for (Field f : SupplyDesk.class.getDeclaredFields()) {
            own.add(f.getName());
        }
        Matcher name = Pattern.compile("\\b[A-Z]\\w*").matcher(code);
        while (name.find()) {
            need("no class of the library: " + name.group(), own.contains(name.group()));
        }
    }

    /** A counter that runs against a name: the plainest end that can be seen from a loop's own line. */
    private static void loops(String code) {
        Pattern counted = Pattern.compile(
                "for \\(int (\\w+) = [\\w -]+; (?:\\1 < \\w+; \\1\\+\\+|\\1 >= 0; \\1--)\\) \\{");
        Set<String> counters = new TreeSet<>();
        StringBuilder rest = new StringBuilder();
        for (String line : code.split("\\n")) {
            Matcher header = counted.matcher(line.strip());
            if (header.matches()) {
                counters.add(header.group(1));
            } else {
                need("a counted loop: " + line, !Pattern.compile("\\b(for|while|do)\\b").matcher(line).find());
                rest.append(line.replaceAll("\\bint \\w+ =", "")).append('\n');
            }
        }
        for (String name : counters) {
            Pattern moved = Pattern.compile("\\b" + name + " [-+*/%&|^<>]*=(?!=)|\\b" + name + "(\\+\\+|--)|(\\+\\+|--)" + name + "\\b");
            Matcher move = moved.matcher(rest.toString().replaceAll("[<>]= ", "< "));
            need("the counter " + name + " is moved by its loop alone", !move.find());
        }
    }

    private static void arraysMadeInFields(String code) {
        Pattern made = Pattern.compile("    private final (\\w+)\\[\\] \\w+ = new \\1\\[[A-Z]+\\];");
        for (String line : code.split("\\n")) {
            need("an array is made in a field: " + line, !line.matches(".*\\bnew\\b.*") || made.matcher(line).matches());
        }
    }

    private static void methods(String code) {
        Map<String, String> bodies = new TreeMap<>();
        Matcher found = METHOD.matcher(code);
        int from = 0;
        while (found.find(from)) {
            bodies.put(found.group(1), found.group(3));
            need(found.group(1) + " is short", found.group(3).lines().count() <= 60);
            from = found.end() - 1;
        }
        int declared = SupplyDesk.class.getDeclaredMethods().length + 1;
        need("all methods are seen here: " + bodies.size() + " of " + declared, bodies.size() == declared);
        for (String name : bodies.keySet()) {
            need(name + " calls at most six deep, and no method calls itself", depth(name, bodies) <= 6);
        }
    }

    /** How many calls can stand upon each other from this method on; more than six for a ring of calls. */
    private static int depth(String name, Map<String, String> bodies) {
        Set<String> layer = Set.of(name);
        int depth = 0;
        while (!layer.isEmpty() && depth <= 6) {
            Set<String> next = new TreeSet<>();
            for (String caller : layer) {
                for (String callee : bodies.keySet()) {
                    if (Pattern.compile("\\b" + callee + "\\(").matcher(bodies.get(caller)).find()) {
                        next.add(callee);
                    }
                }
            }
            layer = next;
            depth++;
        }
        return depth;
    }

    private static void callsInArguments(String code) {
        Set<String> names = new HashSet<>();
        for (Method m : SupplyDesk.class.getDeclaredMethods()) {
            names.add(m.getName());
        }
        Deque<Boolean> open = new ArrayDeque<>();
        Matcher part = Pattern.compile("(\\w+)?\\s*\\(|\\)").matcher(code);
        while (part.find()) {
            if (part.group().equals(")")) {
                open.pop();
                continue;
            }
            boolean call = names.contains(String.valueOf(part.group(1)));
            need("no call in the arguments of another: " + part.group(1), !call || !open.contains(true));
            open.push(call);
        }
    }
}
