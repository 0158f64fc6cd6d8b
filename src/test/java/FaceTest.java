import java.io.IOException;
import java.lang.reflect.Constructor;
import java.lang.reflect.Field;
import java.lang.reflect.Method;
import java.lang.reflect.Modifier;
import java.nio.file.Files;
import java.nio.file.Path;
import java.util.Arrays;
import java.util.Set;
import java.util.TreeSet;
import java.util.regex.Pattern;

/** The public face, the rules of LANGUAGE.md that can be seen from outside, and that no call ever throws. */
public final class FaceTest {
    private static final String[] FACE = {
        "int field(int,int)", "int give(boolean,int,int)", "int box(boolean,int,int,int)", "int at(boolean,int)",
        "int trace()", "int cells(boolean,int)", "int heads(int,int)", "int way(int)", "int due(int)",
        "int parts(int)", "int beside(boolean,int,int)", "int faults()", "int would(int,int)", "int mend()",
        "int mayHand(int,int)", "int hand(int,int)", "int chain()", "int link(int)", "int pass()", "int settle()",
        "int changed()", "int carried(int)", "int off()", "int tile(int)", "int kept()", "int votes(int,int,int)",
        "int won(int)", "int has(int,int)", "int ahead(int)", "int turn(int)", "int count(int)",
    };
    private static final String[] FORBIDDEN = {
        "\\bthrow\\b", "\\btry\\b", "\\bcatch\\b", "\\bsynchronized\\b", "\\bassert\\b", "->", "::", "\\w+Exact\\b",
        "\\bpackage\\b", "\\bSystem\\.(?!arraycopy)", "import (?!java\\.util\\.Arrays;)",
    };

    public static void main(String[] args) throws IOException {
        constants();
        methods();
        fields(PeopleLands.class);
        nestedClasses();
        source();
        wildCalls();
        Check.end("FaceTest");
    }

    private static void constants() {
        Check.due(1, "UNKNOWN", PeopleLands.UNKNOWN, -1);
        Check.due(1, "BAD", PeopleLands.BAD, -2);
        Check.due(1, "STATE", PeopleLands.STATE, -3);
        Check.due(1, "NONE", PeopleLands.NONE, -9);
    }

    private static void methods() {
        Check.holds("public final class", Modifier.isPublic(PeopleLands.class.getModifiers())
                && Modifier.isFinal(PeopleLands.class.getModifiers()));
        Constructor<?>[] made = PeopleLands.class.getDeclaredConstructors();
        Check.holds("one public constructor without parameters", made.length == 1
                && Modifier.isPublic(made[0].getModifiers()) && made[0].getParameterCount() == 0);
        Set<String> open = new TreeSet<>();
        Set<String> openNames = new TreeSet<>();
        Set<String> hiddenNames = new TreeSet<>();
        for (Method method : PeopleLands.class.getDeclaredMethods()) {
            if (Modifier.isPrivate(method.getModifiers())) {
                hiddenNames.add(method.getName());
            } else {
                StringBuilder told = new StringBuilder();
                for (Class<?> kind : method.getParameterTypes()) {
                    told.append(told.length() == 0 ? "" : ",").append(kind.getName());
                }
                open.add(method.getReturnType() + " " + method.getName() + "(" + told + ")");
                openNames.add(method.getName());
                Check.holds(method + " is public, not static", Modifier.isPublic(method.getModifiers())
                        && !Modifier.isStatic(method.getModifiers()));
            }
        }
        Check.holds("the face is " + open, open.equals(new TreeSet<>(Arrays.asList(FACE))));
        hiddenNames.retainAll(openNames);
        Check.holds("private ones bear names of public ones: " + hiddenNames, hiddenNames.isEmpty());
    }

    private static void fields(Class<?> kind) {
        Set<String> open = new TreeSet<>();
        for (Field field : kind.getDeclaredFields()) {
            int is = field.getModifiers();
            Check.holds(field + ": static ones are final", !Modifier.isStatic(is) || Modifier.isFinal(is));
            if (!Modifier.isPrivate(is)) {
                open.add(field.getName());
            }
        }
        if (kind == PeopleLands.class) {
            Check.holds("constants are " + open, open.equals(Set.of("UNKNOWN", "BAD", "STATE", "NONE")));
        }
    }

    private static void nestedClasses() {
        Class<?>[] nested = PeopleLands.class.getDeclaredClasses();
        Check.holds("at most twelve classes", nested.length < 12);
        for (Class<?> kind : nested) {
            Check.holds(kind + " is static", Modifier.isStatic(kind.getModifiers()));
            Check.holds(kind + " is not public", !Modifier.isPublic(kind.getModifiers())
                    && !Modifier.isProtected(kind.getModifiers()));
            Check.holds(kind + " has at most twenty fields", kind.getDeclaredFields().length <= 20);
            fields(kind);
        }
    }

    private static void source() throws IOException {
        String text = Files.readString(Path.of("src/main/java/PeopleLands.java"));
        String code = text.replaceAll("(?s)/\\*.*?\\*/", " ").replaceAll("//[^\n]*", " ");
        for (String rule : FORBIDDEN) {
            Check.holds("the source has no " + rule, !Pattern.compile(rule).matcher(code).find());
        }
    }

    /** An exception would end this test; the answers themselves are asked for elsewhere. */
    private static void wildCalls() {
        int[] wild = {
            Integer.MIN_VALUE, Integer.MIN_VALUE + 1, -65536, -10, -9, -3, -2, -1, 0, 1, 2, 3, 5, 6, 7, 15, 16, 35, 36,
            63, 64, 999, 1000, 65536, Integer.MAX_VALUE - 1, Integer.MAX_VALUE,
        };
        for (int a : wild) {
            for (int b : wild) {
                PeopleLands x = Check.mapped("0123", "4501", "2345", "0.1.");
                x.trace();
                Check.heads(x, 9, 1, 4, 0, 7, 2);
                Check.votes(x, 0, 9, 1, 4);
                call(x, a, b, false);
                call(x, a, b, true);
                int size = x.count(0);
                Check.holds("a field of 4 .. 36 cells", size >= 4 && size <= 36);
            }
        }
    }

    private static void call(PeopleLands x, int a, int b, boolean drawn) {
        int[] answers = {
            x.give(drawn, a, b), x.box(drawn, a, b, 0), x.box(drawn, 0, a, b), x.box(drawn, a, 15, b), x.at(drawn, a),
            x.cells(drawn, a), x.heads(a, b), x.way(a), x.due(b), x.parts(a), x.beside(drawn, a, b), x.faults(),
            x.would(a, b), x.mend(), x.mayHand(a, b), x.hand(a, b), x.chain(), x.link(a), x.pass(), x.settle(),
            x.changed(), x.carried(a), x.off(), x.tile(b), x.kept(), x.votes(a, b, 1), x.votes(0, a, b), x.won(a),
            x.has(a, b), x.ahead(a), x.turn(b), x.count(a), x.trace(), x.field(a, b), x.faults(), x.off(),
        };
        for (int answer : answers) {
            Check.holds("an answer of the face", answer >= 0 || answer == PeopleLands.UNKNOWN
                    || answer == PeopleLands.BAD || answer == PeopleLands.STATE || answer == PeopleLands.NONE);
        }
    }
}
