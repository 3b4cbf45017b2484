import java.io.IOException;
import java.lang.reflect.Constructor;
import java.lang.reflect.Field;
import java.lang.reflect.Method;
import java.lang.reflect.Modifier;
import java.nio.file.Files;
import java.nio.file.Path;
import java.util.ArrayList;
import java.util.Arrays;
import java.util.List;
import java.util.Set;
import java.util.TreeSet;
import java.util.regex.Matcher;
import java.util.regex.Pattern;

/** The public face as the document has it, and of LANGUAGE.md what can be seen without reading the code. */
public final class FaceTest {
    private static final Due due = new Due("FaceTest");
    private static final String SOURCE = "src/main/java/SewnAhead.java";
    private static final String FACE = "int row(int,int);int lay(int,int,int);int at(int,int);int tear(int);"
            + "int copy(int,int,int,int,int);int mean(int);int text(int,int);int put(int,int,int);int fault(int);"
            + "int cloth(int);int year(int,int);int law(int,int);int mark(int,int);int end(int,int);int sew(int,int);"
            + "int unpick(int);int undo(int);int keep(int);int on(int);int happens(int);int by(int);int broken();"
            + "int can(int);int safe(int);int least(int,int,int);int ways(int,int,int);int avert(int,int);"
            + "int judge(int);int was(int,int);int kinds(int,int);int needed();int forged(int);int odds(int,int);"
            + "int lots(int,int);int asked();long upper();long lower();int count(int);int finding();"
            + "int findings(int);long digest()";

    public static void main(String[] args) throws IOException {
        face();
        inside();
        words(Files.readString(Path.of(SOURCE)));
        room();
        due.end();
    }

    private static void holds(String what, boolean is) {
        due.is(what, is ? 1 : 0, 1);
    }

    private static String signature(Method m) {
        List<String> types = new ArrayList<>();
        for (Class<?> type : m.getParameterTypes()) {
            types.add(type.getName());
        }
        return m.getReturnType().getName() + " " + m.getName() + "(" + String.join(",", types) + ")";
    }

    private static void face() {
        Class<?> c = SewnAhead.class;
        holds("public and final", Modifier.isPublic(c.getModifiers()) && Modifier.isFinal(c.getModifiers()));
        Set<String> methods = new TreeSet<>();
        for (Method m : c.getDeclaredMethods()) {
            if (Modifier.isPublic(m.getModifiers())) {
                methods.add(signature(m));
                holds(m.getName() + " is no static method", !Modifier.isStatic(m.getModifiers()));
            } else {
                holds(m.getName() + " is private", Modifier.isPrivate(m.getModifiers()));
            }
        }
        Set<String> want = new TreeSet<>(Arrays.asList(FACE.split(";")));
        holds("the methods " + methods + ", due " + want, methods.equals(want));
        Set<String> constants = new TreeSet<>();
        for (Field f : c.getDeclaredFields()) {
            if (!Modifier.isPrivate(f.getModifiers())) {
                constants.add(Modifier.toString(f.getModifiers()) + " " + f.getType() + " " + f.getName());
            }
            holds(f.getName() + ", if static, is final", !Modifier.isStatic(f.getModifiers())
                    || Modifier.isFinal(f.getModifiers()));
        }
        Set<String> wantConstants = new TreeSet<>();
        for (String name : "BAD FULL FINDING STATE SPENT NONE".split(" ")) {
            wantConstants.add("public static final int " + name);
        }
        holds("the constants " + constants, constants.equals(wantConstants));
        Constructor<?>[] constructors = c.getDeclaredConstructors();
        holds("one public constructor without arguments", constructors.length == 1
                && Modifier.isPublic(constructors[0].getModifiers()) && constructors[0].getParameterCount() == 0);
    }

    private static void inside() {
        Set<String> face = new TreeSet<>();
        for (Method m : SewnAhead.class.getMethods()) {
            face.add(m.getName());
        }
        List<Class<?>> classes = new ArrayList<>(Arrays.asList(SewnAhead.class.getDeclaredClasses()));
        classes.add(SewnAhead.class);
        holds("some twelve classes at most", classes.size() <= 12);
        for (Class<?> c : classes) {
            holds(c.getName() + " is static", c == SewnAhead.class || Modifier.isStatic(c.getModifiers()));
            int fields = 0;
            for (Field f : c.getDeclaredFields()) {
                fields += Modifier.isStatic(f.getModifiers()) ? 0 : 1;
            }
            holds(c.getName() + " has some twenty fields at most", fields <= 20);
            for (Method m : c.getDeclaredMethods()) {
                holds(m + " has seven parameters at most", m.getParameterCount() <= 7);
                holds(m + " bears no name of the face", c == SewnAhead.class && Modifier.isPublic(m.getModifiers())
                        || !face.contains(m.getName()));
                holds(m + " is no lambda", !m.isSynthetic());
            }
        }
    }

    private static void words(String source) {
        holds("signs 1 to 127", source.chars().allMatch(c -> c >= 1 && c <= 127));
        String code = source.replaceAll("(?s)/\\*.*?\\*/", "").replaceAll("//[^\n]*", "");
        String[] barred = {"\\bthrows?\\b", "\\btry\\b", "\\bcatch\\b", "\\bsynchronized\\b", "\\bassert\\b", "->",
            "::", "\\bpackage\\b", "\\bException\\b", "\\bObject\\b", "\\bSystem\\.(?!arraycopy\\b)",
            "\\bMath\\.\\w*Exact\\b", "\\bhashCode\\b", "\\btoString\\b", "\\bThread\\b", "\\bRandom\\b",
            "\\bstatic\\s*\\{", "\\bprotected\\b", "\\bnew\\s+\\w+\\([^()]*\\)\\s*\\{", "\\bnull\\b"};
        for (String word : barred) {
            Matcher m = Pattern.compile(word).matcher(code);
            holds("no " + word, !m.find());
        }
        Matcher imports = Pattern.compile("import ([^;]+);").matcher(code);
        while (imports.find()) {
            holds("import " + imports.group(1), Set.of("java.util.Arrays", "java.util.ArrayList", "java.util.List")
                    .contains(imports.group(1)));
        }
        holds("methods of some sixty lines at most", longestMethod(source) <= 60);
    }

    /** A method's lines: from a line that opens one to the first brace as far in as that. */
    private static int longestMethod(String source) {
        int longest = 0;
        Matcher m = Pattern.compile("(?ms)^( {4}| {8})\\w[^;{}=]*\\([^;{}]*\\) \\{\n.*?^\\1\\}").matcher(source);
        while (m.find()) {
            longest = Math.max(longest, (int) m.group().lines().count());
        }
        holds("methods were found", longest > 1);
        return longest;
    }

    /** All calls of a run live in one room, so none but the constructor may make anything. */
    private static void room() {
        com.sun.management.ThreadMXBean threads =
                (com.sun.management.ThreadMXBean) java.lang.management.ManagementFactory.getThreadMXBean();
        long id = Thread.currentThread().getId();
        dearCalls(Due.cloth("y----- l01 e02 s03 b12 k34 g04 l23 s41"));
        SewnAhead x = Due.cloth("y----- l01 e02 s03 b12 k34 g04 l23 s41");
        long before = threads.getThreadAllocatedBytes(id);
        dearCalls(x);
        long made = threads.getThreadAllocatedBytes(id) - before;
        holds("calls make nothing, but made " + made + " bytes", made < 16384);
        before = threads.getThreadAllocatedBytes(id);
        new SewnAhead();
        made = threads.getThreadAllocatedBytes(id) - before;
        holds("a new object is small, but has " + made + " bytes", made < 32768);
    }

    private static void dearCalls(SewnAhead x) {
        for (int i = 0; i < 20; i++) {
            x.least(i % 5, i % 4, 1);
            x.ways(i % 5, i % 4, 5);
            x.avert(i % 5, 1);
            x.odds(i % 5, 4);
            x.row(1, 5);
            x.forged(1);
            x.kinds(1, 1);
            x.judge(1);
            x.needed();
            x.safe(1);
            x.can(1);
            x.lots(1, 7);
            x.was(0, 1);
            x.was(1, 1);
            x.undo(0);
            x.keep(1);
            x.fault(0);
            x.on(1);
            x.digest();
            x.copy(1, 0, 1, 0, 5);
            x.mean(1);
        }
    }
}
