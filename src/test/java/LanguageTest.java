import java.io.IOException;
import java.lang.reflect.Constructor;
import java.lang.reflect.Field;
import java.lang.reflect.Member;
import java.lang.reflect.Method;
import java.lang.reflect.Modifier;
import java.nio.file.Files;
import java.nio.file.Path;
import java.util.HashSet;
import java.util.List;
import java.util.Set;

/** Some of the rules of LANGUAGE.md that can be seen from outside or in the text. */
public final class LanguageTest {
    private static final String[] FACE = {
        "int room(int)", "int guest(int,int)", "int comes(int,int)", "int leaves(int)",
        "int goes(int,int)", "int hook(int)", "int set(int,int)", "int rule(int)",
        "int heap(int,int)", "int above(int)", "int fate(int,int)", "int sums(int)",
        "int missing()", "int then(int,int,int)", "int order(int)", "int fewest()",
        "int shown(int)", "int least(int)", "int backs(int)", "int bestBack()",
        "int whom(int,int)", "int worth(int)", "int enough(int)", "int along(int,int)",
        "int turn(int)", "int bestTurn()", "long mean(int)", "int orders(int)", "int rival(int)",
        "int bestRule()", "int whose(int)", "int two(int,int)", "int chain(int)", "int judge(int)",
        "int reads(int,int)", "int nights(int,int,int)", "int image()", "int restore()",
        "int count(int)", "int keep(int,int,int,int)", "int row(int,int,int)",
        "int put(int,int,int)", "long element(int,int)", "int copy(int,int,int,int,int)",
        "int cost(int)", "int toss(int)"};
    private static final String[] RULED_OUT = {"->", "::", "import ", "package ", "finally",
        "synchronized", "assert ", "getMessage", "RuntimeException e", "Exact(", "System.out",
        "ArrayIndexOutOfBounds", "NullPointer", "ClassCast", "NegativeArraySize", "ArrayStore",
        "catch (Exception", "catch (Throwable", "catch (RuntimeException", "protected ",
        "toString", "hashCode", ".equals(", "record ", "lambda", "while (true)", "for (;;)"};

    private static final Check C = new Check();

    private LanguageTest() {
    }

    public static void main(String[] args) throws IOException {
        face();
        insides();
        text();
        C.end();
    }

    private static void face() {
        C.part("rule 1");
        Class<?> type = CoatsOnTheBed.class;
        C.holds("public and final",
                Modifier.isPublic(type.getModifiers()) && Modifier.isFinal(type.getModifiers()));
        Set<String> wanted = new HashSet<>(List.of(FACE));
        Set<String> names = new HashSet<>();
        for (String call : FACE) {
            names.add(call.substring(call.indexOf(' ') + 1, call.indexOf('(')));
        }
        for (Method m : type.getDeclaredMethods()) {
            if (Modifier.isPublic(m.getModifiers())) {
                String call = m.getReturnType() + " " + m.getName() + "(" + parameters(m) + ")";
                C.holds(call + " is of the face", wanted.remove(call));
                boolean element = m.getName().equals("element");
                C.due(call + " declares", m.getExceptionTypes().length, element ? 2 : 0);
            } else {
                C.holds(m + " is private", Modifier.isPrivate(m.getModifiers()));
                C.holds(m + " bears no name of the face", !names.contains(m.getName()));
            }
        }
        C.holds("lacking: " + wanted, wanted.isEmpty());
        for (Field f : type.getDeclaredFields()) {
            C.holds(f + " is private", Modifier.isPrivate(f.getModifiers()));
        }
        Constructor<?>[] makers = type.getDeclaredConstructors();
        C.due("constructors", makers.length, 1);
        C.due("parameters", makers[0].getParameterCount(), 0);
    }

    private static String parameters(Method m) {
        StringBuilder s = new StringBuilder();
        for (Class<?> p : m.getParameterTypes()) {
            s.append(s.length() == 0 ? "" : ",").append(p);
        }
        return s.toString();
    }

    private static void insides() {
        C.part("rules 1, 5, 11");
        Class<?>[] inside = CoatsOnTheBed.class.getDeclaredClasses();
        C.holds("at most twelve classes", inside.length + 1 <= 12);
        for (Class<?> type : inside) {
            C.holds(type + " is static", Modifier.isStatic(type.getModifiers()));
            C.holds(type + " is not public", !Modifier.isPublic(type.getModifiers()));
            int fields = 0;
            for (Field f : type.getDeclaredFields()) {
                boolean fixed = Modifier.isStatic(f.getModifiers());
                C.holds(f + " static is final", !fixed || Modifier.isFinal(f.getModifiers()));
                fields += fixed ? 0 : 1;
            }
            C.holds(type + " has at most twenty fields", fields <= 20);
            for (Method m : type.getDeclaredMethods()) {
                C.holds(m + " has at most seven parameters", m.getParameterCount() <= 7);
                C.holds(m + " bears no name of the face", !isOfFace(m));
            }
        }
    }

    private static boolean isOfFace(Member m) {
        for (String call : FACE) {
            if (call.contains(" " + m.getName() + "(")) {
                return true;
            }
        }
        return false;
    }

    private static void text() throws IOException {
        C.part("text");
        Path file = Path.of("src", "main", "java", "CoatsOnTheBed.java");
        String text = Files.readString(file);
        for (String word : RULED_OUT) {
            C.holds("without " + word, !text.contains(word));
        }
        for (int i = 0; i < text.length(); i++) {
            C.holds("sign " + i, text.charAt(i) < 128);
        }
        shortMethods(text.split("\n"));
    }

    /** Blocks inside a method are shorter than it, so it does no harm to look at them, too. */
    private static void shortMethods(String[] lines) {
        for (int i = 0; i < lines.length; i++) {
            if (lines[i].endsWith("{") && lines[i].contains(")")) {
                String end = lines[i].replaceAll("\\S.*", "") + "}";
                int last = i;
                while (last < lines.length && !lines[last].startsWith(end)) {
                    last++;
                }
                C.holds("at most sixty lines: " + lines[i], last - i < 60);
            }
        }
    }
}
