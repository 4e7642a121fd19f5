import java.io.InputStream;
import java.lang.management.ManagementFactory;
import java.lang.reflect.Field;
import java.lang.reflect.Method;
import java.lang.reflect.Modifier;
import java.nio.file.Files;
import java.nio.file.Path;
import java.util.ArrayList;
import java.util.List;
import java.util.Map;
import java.util.TreeMap;
import java.util.TreeSet;
import java.util.regex.Matcher;
import java.util.regex.Pattern;

/**
 * What of LANGUAGE.md can be seen from outside: the face, words that are ruled out, sizes, how deep calls go, the library,
 * and that no call makes objects.
 */
public final class RulesTest {
    private static final String SOURCE = "src/main/java/TongueTip.java";
    private static final String DOC = "../shared/DOC.md";
    private static final int DEEPEST = 8;
    // What the class uses of that which LANGUAGE.md allows: another one comes here only if it stands there.
    private static final List<String> LIBRARY = List.of("java/lang/Object.<init>:()V", "java/lang/Math.min:(II)I",
        "java/lang/Math.max:(II)I", "java/lang/Integer.bitCount:(I)I", "java/lang/String.length:()I",
        "java/lang/String.charAt:(I)C");
    private static final List<String> FACE = List.of("addTry", "ask", "best", "clear", "comes", "count", "days", "digest",
        "from", "has", "held", "image", "index", "learn", "next", "odds", "one", "part", "put", "question", "read", "rests",
        "status", "takenFor", "tell", "think", "type", "undo", "whose");

    public static void main(String[] args) throws Exception {
        Due d = new Due("RulesTest");
        face(d);
        signatures(d);
        nested(d);
        words(d);
        sizes(d);
        instructions(d);
        calls(d);
        noObjects(d);
        d.end();
    }

    private static void face(Due d) {
        TreeSet<String> open = new TreeSet<>();
        for (Method m : TongueTip.class.getDeclaredMethods()) {
            if (Modifier.isPublic(m.getModifiers())) {
                open.add(m.getName());
            } else {
                d.due("private " + m, Modifier.isPrivate(m.getModifiers()) ? 1 : 0, 1);
                d.due("no name of a public one " + m, FACE.contains(m.getName()) ? 1 : 0, 0);
            }
            d.due("seven parameters at most " + m, m.getParameterCount() <= 7 ? 1 : 0, 1);
        }
        d.due("the methods of the document", open.equals(new TreeSet<>(FACE)) ? 1 : 0, 1);
        int constants = 0;
        for (Field f : TongueTip.class.getDeclaredFields()) {
            boolean constant = Modifier.isPublic(f.getModifiers()) && Modifier.isFinal(f.getModifiers());
            constants += constant ? 1 : 0;
            d.due("private, or a constant " + f, constant || Modifier.isPrivate(f.getModifiers()) ? 1 : 0, 1);
        }
        d.due("constants", constants, 4);
        d.due("constructors", TongueTip.class.getDeclaredConstructors().length, 1);
        d.due("NONE", TongueTip.NONE, -1);
        d.due("BAD", TongueTip.BAD, -2);
        d.due("NO", TongueTip.NO, -3);
        d.due("FULL", TongueTip.FULL, -4);
        d.due("final", Modifier.isFinal(TongueTip.class.getModifiers()) ? 1 : 0, 1);
    }

    /** Each line of 'The public face' is there, type by type, and there is no other. */
    private static void signatures(Due d) throws Exception {
        TreeSet<String> told = new TreeSet<>();
        Matcher m = Pattern.compile("(?m)^    public (\\w+) (\\w+)\\((.*?)\\);$").matcher(Files.readString(Path.of(DOC)));
        while (m.find()) {
            told.add(m.group(1) + " " + m.group(2) + "(" + m.group(3).replaceAll(" \\w+(, |$)", "$1") + ")");
        }
        TreeSet<String> open = new TreeSet<>();
        for (Method method : TongueTip.class.getDeclaredMethods()) {
            if (Modifier.isPublic(method.getModifiers())) {
                List<String> types = new ArrayList<>();
                for (Class<?> type : method.getParameterTypes()) {
                    types.add(type.getName());
                }
                open.add(method.getReturnType().getName() + " " + method.getName() + "(" + String.join(", ", types) + ")");
                d.due("of the object " + method, Modifier.isStatic(method.getModifiers()) ? 1 : 0, 0);
            }
        }
        d.due("methods that the document tells", told.size(), 29);
        d.due("the face is as told: " + open, open.equals(told) ? 1 : 0, 1);
    }

    private static void nested(Due d) {
        Class<?>[] inside = TongueTip.class.getDeclaredClasses();
        d.due("twelve classes at most", inside.length + 1 <= 12 ? 1 : 0, 1);
        for (Class<?> c : inside) {
            d.due("static " + c, Modifier.isStatic(c.getModifiers()) ? 1 : 0, 1);
            d.due("not public " + c, Modifier.isPublic(c.getModifiers()) ? 1 : 0, 0);
            int fields = 0;
            for (Field f : c.getDeclaredFields()) {
                boolean fixed = Modifier.isStatic(f.getModifiers());
                fields += fixed ? 0 : 1;
                d.due("final, if static " + f, !fixed || Modifier.isFinal(f.getModifiers()) ? 1 : 0, 1);
            }
            d.due("twenty fields at most " + c, fields <= 20 ? 1 : 0, 1);
        }
    }

    private static String code() throws Exception {
        String all = Files.readString(Path.of(SOURCE));
        all = all.replaceAll("(?s)/\\*.*?\\*/", "").replaceAll("//[^\n]*", "");
        return all.replaceAll("\"[^\"\n]*\"", "\"\"").replaceAll("'[^'\n]*'", "' '");
    }

    private static void words(Due d) throws Exception {
        String code = code();
        String[] out = {"throw", "throws", "try", "catch", "synchronized", "assert", "import", "package", "instanceof",
            "Math\\.\\w+Exact", "System", "Random", "Thread", "hashCode", "toString", "String\\.format", "protected"};
        for (String word : out) {
            d.due("no " + word, Pattern.compile("\\b" + word + "\\b").matcher(code).find() ? 1 : 0, 0);
        }
        d.due("no lambda", code.contains("->") ? 1 : 0, 0);
        d.due("no method reference", code.contains("::") ? 1 : 0, 0);
        d.due("signs 1 to 127 alone", Files.readString(Path.of(SOURCE)).chars().allMatch(c -> c < 128) ? 1 : 0, 1);
    }

    private static void sizes(Due d) throws Exception {
        Matcher m = Pattern.compile("(?m)^( +)[^\n;=]*\\([^\n;]*\\) \\{\n(.*?)\n\\1\\}", Pattern.DOTALL).matcher(code());
        int methods = 0;
        while (m.find()) {
            methods++;
            d.due("sixty lines at most", m.group(2).split("\n").length <= 60 ? 1 : 0, 1);
        }
        d.due("methods were found", methods > 100 ? 1 : 0, 1);
    }

    /** By the class files: the library that is used, nothing caught or thrown, and objects made by constructors alone. */
    private static void instructions(Due d) throws Exception {
        Map<String, ClassFile.Method> methods = methods();
        d.due("methods in the class files", methods.size() > 100 ? 1 : 0, 1);
        for (String name : methods.keySet()) {
            ClassFile.Method m = methods.get(name);
            d.due("nothing is caught in " + name, m.caught, 0);
            d.due("nothing is thrown in " + name, m.instructions.contains(ClassFile.ATHROW) ? 1 : 0, 0);
            d.due("nothing is locked in " + name, m.instructions.contains(ClassFile.MONITORENTER) ? 1 : 0, 0);
            boolean makes = false;
            for (int instruction : List.of(ClassFile.NEW, ClassFile.NEWARRAY, ClassFile.ANEWARRAY, ClassFile.MULTIANEWARRAY)) {
                makes = makes || m.instructions.contains(instruction);
            }
            d.due("no object is made in " + name, makes && !name.contains("init>") ? 1 : 0, 0);
            for (String called : m.calls) {
                boolean own = methods.containsKey(called);
                d.due("own, or of the library: " + called, own || LIBRARY.contains(called) ? 1 : 0, 1);
            }
        }
    }

    /** No method comes back to itself, and no call of the face goes more than eight deep. */
    private static void calls(Due d) throws Exception {
        Map<String, ClassFile.Method> methods = methods();
        for (String name : methods.keySet()) {
            int deep = depth(methods, name, DEEPEST + 1);
            d.due("calls of " + name + " go eight deep at most, not so many", deep <= DEEPEST ? 0 : deep, 0);
        }
    }

    // A method of the library is one call deeper, too; behind so many levels it looks no further.
    private static int depth(Map<String, ClassFile.Method> methods, String name, int levels) {
        int most = 0;
        if (levels > 1 && methods.containsKey(name)) {
            for (String called : methods.get(name).calls) {
                most = Math.max(most, depth(methods, called, levels - 1));
            }
        }
        return most + 1;
    }

    private static Map<String, ClassFile.Method> methods() throws Exception {
        Map<String, ClassFile.Method> methods = new TreeMap<>();
        List<Class<?>> classes = new ArrayList<>(List.of(TongueTip.class.getDeclaredClasses()));
        classes.add(TongueTip.class);
        for (Class<?> c : classes) {
            try (InputStream in = TongueTip.class.getResourceAsStream(c.getName() + ".class")) {
                methods.putAll(new ClassFile(in.readAllBytes()).methods);
            }
        }
        return methods;
    }

    /** Every call of the face on a full hall, some hundred times: some slack is left for the Java machine itself. */
    private static void noObjects(Due d) {
        var threads = (com.sun.management.ThreadMXBean) ManagementFactory.getThreadMXBean();
        List<TongueTip> halls = new ArrayList<>();
        for (int i = 0; i < 3; i++) {
            halls.add(new TongueTip());
        }
        for (TongueTip x : halls) {
            long before = threads.getCurrentThreadAllocatedBytes();
            fillAndUse(x);
            long made = threads.getCurrentThreadAllocatedBytes() - before;
            if (x == halls.get(2)) {
                d.due("bytes made by calls: few", made < 10_000 ? 1 : made, 1);
            }
        }
    }

    private static void fillAndUse(TongueTip x) {
        for (int i = 0; i < 12; i++) {
            x.one(599681 + i, 1 + i % 3, i % 5, i % 4, 12 + i % 7, 1 + i % 9);
        }
        for (int i = 0; i < 6; i++) {
            x.addTry(i, 1 + i, 5 + i);
            x.question(i % 5, i);
        }
        long here = 0x6865726520313BL;
        for (int i = 0; i < 14; i++) {
            x.held(i, 3);
            x.think(i);
            x.days(10);
            x.undo();
            x.put(2, i);
            x.comes(i, 54321);
            x.best(i, 60);
            x.tell(i, 60);
            x.has(i % 5, i % 2 - 1);
            x.whose();
            x.odds(i);
            x.next();
            x.ask();
            x.index();
            x.takenFor(3, i);
            x.learn(4095, 99, i - 1);
            x.rests(i, i);
            x.part(0);
            x.image(i % 2);
            x.type(here, 7);
            x.read();
            x.clear();
            x.from(i % 2);
            x.status(i);
            x.count(i);
            x.digest();
        }
    }
}
