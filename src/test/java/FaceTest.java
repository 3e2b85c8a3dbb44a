import java.io.IOException;
import java.lang.reflect.Field;
import java.lang.reflect.Member;
import java.lang.reflect.Method;
import java.lang.reflect.Modifier;
import java.nio.file.Files;
import java.nio.file.Path;
import java.util.ArrayList;
import java.util.Arrays;
import java.util.List;
import java.util.TreeSet;

/** The class's face, the rules of the language that can be seen from outside, and promise 1: a new object. */
public final class FaceTest {
    private static final Check CHECK = new Check("FaceTest");

    private static final String[] FACE = {
        "int yard(int,int,int,int)", "int at(int)", "int ofBlock(int,int)",
        "int push(int,int)", "int would(int,int)", "long tracks(int,int)", "int undo(int)", "int keep(int)",
        "int back(int)", "int fewest(int,int)", "int won(int)", "int first(int)", "int rows(int,long,int)",
        "int sand(int,int,int,int)", "int thaw(int)", "int sheet(int,int,int)", "int lose(int)",
        "int put(int,int,int)", "long cell(int,int,int)", "int copy(int,int,int,int,int)", "int tell(int)",
        "int kick(int)", "int as(int,int)", "int trace()", "int fault()", "int many(int)"};

    public static void main(String[] args) throws IOException {
        constants();
        members();
        shapes();
        words();
        lengths();
        newObject();
        CHECK.end();
    }

    private static void constants() {
        CHECK.due("UNKNOWN", IceYard.UNKNOWN, -1);
        CHECK.due("OUTSIDE", IceYard.OUTSIDE, -2);
        CHECK.due("STATE", IceYard.STATE, -3);
        CHECK.due("FULL", IceYard.FULL, -4);
        CHECK.due("SPENT", IceYard.SPENT, -5);
        CHECK.due("GONE", IceYard.GONE, -6);
        CHECK.due("NONE", IceYard.NONE, -9);
        CHECK.due("LOST", IceYard.LOST, Long.MIN_VALUE);
    }

    private static void members() {
        CHECK.due("the class is public and final", IceYard.class.getModifiers(), Modifier.PUBLIC | Modifier.FINAL);
        CHECK.due("constructors", IceYard.class.getDeclaredConstructors().length, 1);
        CHECK.due("public constructors", IceYard.class.getConstructors().length, 1);
        TreeSet<String> methods = new TreeSet<>();
        TreeSet<String> publicNames = new TreeSet<>();
        for (Method m : IceYard.class.getDeclaredMethods()) {
            if (Modifier.isPrivate(m.getModifiers()) || m.isSynthetic()) {
                continue;
            }
            CHECK.due(m + " is public, not static", m.getModifiers(), Modifier.PUBLIC);
            publicNames.add(m.getName());
            methods.add(m.getReturnType() + " " + m.getName()
                + Arrays.toString(m.getParameterTypes()).replace("[", "(").replace("]", ")").replace(" ", ""));
        }
        CHECK.due("methods " + methods, methods.equals(new TreeSet<>(Arrays.asList(FACE))) ? 1 : 0, 1);
        int publicFields = 0;
        for (Field f : IceYard.class.getDeclaredFields()) {
            publicFields += Modifier.isPublic(f.getModifiers()) ? 1 : 0;
            CHECK.due(f + " is private or a constant", isHiddenOrConstant(f) ? 1 : 0, 1);
        }
        CHECK.due("constants", publicFields, 8);
        for (Class<?> inside : IceYard.class.getDeclaredClasses()) {
            CHECK.due(inside + " is static", inside.getModifiers() & Modifier.STATIC, Modifier.STATIC);
            CHECK.due(inside + " is hidden", inside.getModifiers() & (Modifier.PUBLIC | Modifier.PROTECTED), 0);
            for (Method m : inside.getDeclaredMethods()) {
                CHECK.due(m + " has a name of its own", publicNames.contains(m.getName()) ? 1 : 0, 0);
            }
            CHECK.due(inside + " has some twenty fields at most", inside.getDeclaredFields().length > 24 ? 1 : 0, 0);
        }
        CHECK.due("some twelve classes at most", IceYard.class.getDeclaredClasses().length > 11 ? 1 : 0, 0);
    }

    private static boolean isHiddenOrConstant(Member m) {
        int constant = Modifier.PUBLIC | Modifier.STATIC | Modifier.FINAL;
        return Modifier.isPrivate(m.getModifiers()) || m.getModifiers() == constant;
    }

    /** Static fields are constants of numbers; no method takes more than seven, none stands for Object's. */
    private static void shapes() {
        List<Class<?>> all = new ArrayList<>(Arrays.asList(IceYard.class.getDeclaredClasses()));
        all.add(IceYard.class);
        for (Class<?> type : all) {
            for (Field f : type.getDeclaredFields()) {
                boolean constant = Modifier.isFinal(f.getModifiers()) && f.getType().isPrimitive();
                CHECK.due(f + " static but a constant", Modifier.isStatic(f.getModifiers()) && !constant ? 1 : 0, 0);
            }
            for (Method m : type.getDeclaredMethods()) {
                CHECK.due(m + " takes more than seven", m.getParameterCount() > 7 ? 1 : 0, 0);
                boolean ofObject = Arrays.asList("equals", "hashCode", "toString").contains(m.getName());
                CHECK.due(m + " is Object's", ofObject ? 1 : 0, 0);
            }
        }
    }

    private static String code() throws IOException {
        String source = Files.readString(Path.of("src/main/java/IceYard.java"));
        return source.replaceAll("(?s)/\\*.*?\\*/", "").replaceAll("//[^\n]*", "");
    }

    /** Some sixty lines a method. A member of the class begins behind 4 blanks, one of a class inside behind 8. */
    private static void lengths() throws IOException {
        for (String indent : new String[] {"    ", "        "}) {
            int since = -1;
            String head = "";
            String[] lines = code().split("\n");
            for (int i = 0; i < lines.length; i++) {
                if (lines[i].matches(indent + "\\w.*\\) \\{")) {
                    since = i;
                    head = lines[i].trim();
                } else if (lines[i].equals(indent + "}") && since >= 0) {
                    CHECK.due(head + " is too long", i - since > 60 ? 1 : 0, 0);
                    since = -1;
                }
            }
        }
    }

    private static void words() throws IOException {
        String code = code();
        for (String word : new String[] {"throw", "throws", "try", "catch", "synchronized", "assert", "package", "double",
            "float", "Object", "System.out", "\\w+Exact", "Random", "Thread", "->", "::"}) {
            String pattern = word.matches(".*\\w") ? "(?s).*\\b" + word + "\\b.*" : "(?s).*" + word + ".*";
            CHECK.due("'" + word + "' in the source", code.matches(pattern) ? 1 : 0, 0);
        }
        String rest = code.replace("import java.util.Arrays;", "");
        CHECK.due("imports but Arrays", rest.contains("import ") || rest.contains("java.") ? 1 : 0, 0);
    }

    private static void newObject() {
        IceYard x = new IceYard();
        for (int what = 0; what <= 4; what++) {
            CHECK.due("many(" + what + ")", x.many(what), 0);
        }
        CHECK.due("trace()", x.trace(), 0);
        CHECK.due("fault()", x.fault(), 0);
        CHECK.due("at(0)", x.at(0), IceYard.UNKNOWN);
        CHECK.due("ofBlock(0, 0)", x.ofBlock(0, 0), IceYard.UNKNOWN);
        CHECK.due("push(0, 0)", x.push(0, 0), IceYard.UNKNOWN);
        CHECK.due("push(0, 4)", x.push(0, 4), IceYard.UNKNOWN);
        CHECK.due("would(0, 0)", x.would(0, 0), IceYard.UNKNOWN);
        CHECK.due("tracks(0, 0)", x.tracks(0, 0), IceYard.LOST);
        CHECK.due("undo(0)", x.undo(0), 0);
        CHECK.due("undo(1)", x.undo(1), IceYard.OUTSIDE);
        CHECK.due("keep(0)", x.keep(0), IceYard.STATE);
        CHECK.due("back(0)", x.back(0), IceYard.STATE);
        CHECK.due("fewest(0, -1)", x.fewest(0, -1), IceYard.NONE);
        CHECK.due("fewest(1, 0)", x.fewest(1, 0), IceYard.NONE);
        CHECK.due("won(0)", x.won(0), IceYard.NONE);
        CHECK.due("first(1)", x.first(1), IceYard.NONE);
        CHECK.due("rows(1, 0, -1)", x.rows(1, 0, -1), 0);
        CHECK.due("rows(1, 0, 0)", x.rows(1, 0, 0), IceYard.NONE);
        CHECK.due("rows(1, 1, -1)", x.rows(1, 1, -1), IceYard.OUTSIDE);
        CHECK.due("sand(0, 0, 1, -1)", x.sand(0, 0, 1, -1), IceYard.UNKNOWN);
        CHECK.due("thaw(20)", x.thaw(20), 0);
        CHECK.due("tell(0)", x.tell(0), IceYard.UNKNOWN);
        CHECK.due("kick(0)", x.kick(0), IceYard.UNKNOWN);
        CHECK.due("as(0, 0)", x.as(0, 0), IceYard.UNKNOWN);
        for (int k = 0; k < 4; k++) {
            CHECK.due("lose(" + k + ")", x.lose(k), 0);
            CHECK.due("put(" + k + ", 0, 0)", x.put(k, 0, 0), -11);
        }
    }
}
