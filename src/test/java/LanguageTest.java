import java.io.IOException;
import java.lang.reflect.Constructor;
import java.lang.reflect.Field;
import java.lang.reflect.Member;
import java.lang.reflect.Method;
import java.lang.reflect.Modifier;
import java.nio.file.Files;
import java.nio.file.Path;
import java.util.HashMap;
import java.util.HashSet;
import java.util.List;
import java.util.Map;
import java.util.Set;
import java.util.regex.Matcher;
import java.util.regex.Pattern;

/** Some of the rules of LANGUAGE.md that can be seen from outside or in the text. */
public final class LanguageTest {
    private static final String[] FACE = {
        "int room(int)", "int guest(int,int)", "int comes(int,int)", "int leaves(int)",
        "int goes(int,int)", "int hook(int)", "int set(int,int)", "int rule(int)",
        "int heap(int,int)", "int above(int)", "int fate(int,int)", "int sums(int)",
        "int missing()", "int then(int,int,int)", "int order(int)", "int fewest()",
        "int shown(int)", "int least(int)", "int backs(int)", "int bestBack()",
        "int whom(int,int)", "int worth(int)", "int enough(int)", "int along(int,int)",
        "int turn(int)", "int bestTurn()", "long mean(int)", "int orders(int)", "int rival(int)",
        "int bestRule()", "int whose(int)", "int two(int,int)", "int chain(int)", "int judge(int)",
        "int reads(int,int)", "int nights(int,int,int)", "int image()", "int restore()",
        "int count(int)", "int keep(int,int,int,int)", "int row(int,int,int)",
        "int put(int,int,int)", "long element(int,int)", "int copy(int,int,int,int,int)",
        "int cost(int)", "int toss(int)"};
    private static final String[] RULED_OUT = {"->", "::", "import ", "package ", "finally",
        "synchronized", "assert ", "getMessage", "RuntimeException e", "Exact(", "System.out",
        "ArrayIndexOutOfBounds", "NullPointer", "ClassCast", "NegativeArraySize", "ArrayStore",
        "catch (Exception", "catch (Throwable", "catch (RuntimeException", "protected ",
        "toString", "hashCode", ".equals(", "record ", "lambda", "while (true)", "for (;;)"};

    private static final Set<Class<?>> STATIC_TYPES = Set.of(int.class, long.class, boolean.class,
            char.class, String.class, int[].class, long[].class, char[].class, byte[].class);
    private static final Set<String> LIBRARY =
            Set.of("Math.max", "Math.min", "Integer.bitCount", "System.arraycopy");
    private static final Set<String> THROWN = Set.of("IllegalStateException",
            "IllegalArgumentException", "UnsupportedOperationException");
    private static final Pattern METHOD = Pattern.compile(
            "^( {4}(?: {4})?)(?:(?:public|private|static|final) )*[\\w\\[\\]]+ (\\w+)\\([^()]*\\)"
            + "(?: throws [\\w, ]+)? \\{\n(.*?\n)\\1\\}\n", Pattern.MULTILINE | Pattern.DOTALL);
    private static final Pattern CALLED = Pattern.compile("(?<!new )\\b(\\w+)\\(");
    private static final Pattern OF_LIBRARY = Pattern.compile("\\b([A-Z][a-z]\\w*\\.\\w+)\\(");
    private static final int DEEPEST = 8;

    private static final Check C = new Check();

    private LanguageTest() {
    }

    public static void main(String[] args) throws IOException {
        face();
        insides();
        statics();
        text();
        methods();
        C.end();
    }

    private static void face() {
        C.part("rule 1");
        Class<?> type = CoatsOnTheBed.class;
        C.holds("public and final",
                Modifier.isPublic(type.getModifiers()) && Modifier.isFinal(type.getModifiers()));
        Set<String> wanted = new HashSet<>(List.of(FACE));
        Set<String> names = new HashSet<>();
        for (String call : FACE) {
            names.add(call.substring(call.indexOf(' ') + 1, call.indexOf('(')));
        }
        for (Method m : type.getDeclaredMethods()) {
            if (Modifier.isPublic(m.getModifiers())) {
                String call = m.getReturnType() + " " + m.getName() + "(" + parameters(m) + ")";
                C.holds(call + " is of the face", wanted.remove(call));
                boolean element = m.getName().equals("element");
                C.due(call + " declares", m.getExceptionTypes().length, element ? 2 : 0);
            } else {
                C.holds(m + " is private", Modifier.isPrivate(m.getModifiers()));
                C.holds(m + " bears no name of the face", !names.contains(m.getName()));
            }
        }
        C.holds("lacking: " + wanted, wanted.isEmpty());
        for (Field f : type.getDeclaredFields()) {
            C.holds(f + " is private", Modifier.isPrivate(f.getModifiers()));
        }
        Constructor<?>[] makers = type.getDeclaredConstructors();
        C.due("constructors", makers.length, 1);
        C.due("parameters", makers[0].getParameterCount(), 0);
    }

    private static String parameters(Method m) {
        StringBuilder s = new StringBuilder();
        for (Class<?> p : m.getParameterTypes()) {
            s.append(s.length() == 0 ? "" : ",").append(p);
        }
        return s.toString();
    }

    private static void insides() {
        C.part("rules 1, 5, 11");
        Class<?>[] inside = CoatsOnTheBed.class.getDeclaredClasses();
        C.holds("at most twelve classes", inside.length + 1 <= 12);
        for (Class<?> type : inside) {
            C.holds(type + " is static", Modifier.isStatic(type.getModifiers()));
            C.holds(type + " is not public", !Modifier.isPublic(type.getModifiers()));
            int fields = 0;
            for (Field f : type.getDeclaredFields()) {
                boolean fixed = Modifier.isStatic(f.getModifiers());
                C.holds(f + " static is final", !fixed || Modifier.isFinal(f.getModifiers()));
                fields += fixed ? 0 : 1;
            }
            C.holds(type + " has at most twenty fields", fields <= 20);
            for (Method m : type.getDeclaredMethods()) {
                C.holds(m + " has at most seven parameters", m.getParameterCount() <= 7);
                C.holds(m + " bears no name of the face", !isOfFace(m));
            }
        }
    }

    private static void statics() {
        C.part("rule 5");
        Set<Class<?>> all = new HashSet<>(List.of(CoatsOnTheBed.class.getDeclaredClasses()));
        all.add(CoatsOnTheBed.class);
        for (Class<?> type : all) {
            for (Field f : type.getDeclaredFields()) {
                boolean fixed = Modifier.isStatic(f.getModifiers());
                C.holds(f + " static is of a type that may be",
                        !fixed || STATIC_TYPES.contains(f.getType()));
            }
        }
    }

    private static boolean isOfFace(Member m) {
        for (String call : FACE) {
            if (call.contains(" " + m.getName() + "(")) {
                return true;
            }
        }
        return false;
    }

    private static void text() throws IOException {
        C.part("text");
        Path file = Path.of("src", "main", "java", "CoatsOnTheBed.java");
        String text = Files.readString(file);
        for (String word : RULED_OUT) {
            C.holds("without " + word, !text.contains(word));
        }
        for (int i = 0; i < text.length(); i++) {
            C.holds("sign " + i, text.charAt(i) < 128);
        }
        shortMethods(text.split("\n"));
    }

    /** Blocks inside a method are shorter than it, so it does no harm to look at them, too. */
    private static void shortMethods(String[] lines) {
        for (int i = 0; i < lines.length; i++) {
            if (lines[i].endsWith("{") && lines[i].contains(")")) {
                String end = lines[i].replaceAll("\\S.*", "") + "}";
                int last = i;
                while (last < lines.length && !lines[last].startsWith(end)) {
                    last++;
                }
                C.holds("at most sixty lines: " + lines[i], last - i < 60);
            }
        }
    }

    private static void methods() throws IOException {
        String text = Files.readString(Path.of("src", "main", "java", "CoatsOnTheBed.java"));
        Map<String, String> bodies = new HashMap<>();
        Matcher method = METHOD.matcher(text);
        while (method.find()) {
            boolean isNew = bodies.put(method.group(2), method.group(3)) == null;
            C.part("what this test leans on");
            C.holds(method.group(2) + " is the name of one method alone", isNew);
            exceptions(method.group(2), method.group(3));
        }
        C.holds("all methods are seen", bodies.size() >= FACE.length + 80);
        libraryOf(text, bodies);
        C.part("rules 8, 11");
        for (String call : FACE) {
            String name = call.substring(call.indexOf(' ') + 1, call.indexOf('('));
            C.holds(name + " is seen", bodies.containsKey(name));
            C.holds(name + " goes at most eight deep", depthOf(name, bodies, 0) <= DEEPEST);
        }
    }

    private static void exceptions(String name, String body) {
        C.part("rule 6");
        boolean throwsOne = body.contains("throw ");
        C.holds(name + " throws and tries", !(throwsOne && body.contains("try {")));
        Matcher thrown = Pattern.compile("(?:throw new|catch \\() *(\\w+)").matcher(body);
        while (thrown.find()) {
            C.holds(name + ": " + thrown.group(1), THROWN.contains(thrown.group(1)));
        }
    }

    /** What is called with a class's name ahead is the library's, or a method of a class inside. */
    private static void libraryOf(String text, Map<String, String> bodies) {
        C.part("rule 4");
        Matcher call = OF_LIBRARY.matcher(text);
        while (call.find()) {
            String name = call.group(1).substring(call.group(1).indexOf('.') + 1);
            C.holds(call.group(1) + " may be called",
                    LIBRARY.contains(call.group(1)) || bodies.containsKey(name));
        }
    }

    /** How many calls stand open at most, the library's too; a method that calls itself is too deep. */
    private static int depthOf(String name, Map<String, String> bodies, int open) {
        if (!bodies.containsKey(name) || open > DEEPEST) {
            return 1;
        }
        int deepest = 0;
        Matcher called = CALLED.matcher(bodies.get(name));
        while (called.find()) {
            String other = called.group(1);
            boolean isCall = bodies.containsKey(other) || isOfLibrary(other);
            deepest = isCall ? Math.max(deepest, depthOf(other, bodies, open + 1)) : deepest;
        }
        return deepest + 1;
    }

    private static boolean isOfLibrary(String name) {
        for (String call : LIBRARY) {
            if (call.endsWith("." + name)) {
                return true;
            }
        }
        return false;
    }
}
