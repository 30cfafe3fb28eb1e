import java.io.IOException;
import java.lang.management.ManagementFactory;
import java.lang.reflect.Constructor;
import java.lang.reflect.Field;
import java.lang.reflect.Method;
import java.lang.reflect.Modifier;
import java.nio.file.Files;
import java.nio.file.Path;
import java.util.ArrayList;
import java.util.Arrays;
import java.util.Collections;
import java.util.IdentityHashMap;
import java.util.List;
import java.util.Set;
import java.util.TreeSet;
import java.util.regex.Matcher;
import java.util.regex.Pattern;

/** The face of the class, and what of ../shared/LANGUAGE.md can be seen from outside. */
public final class RulesTest {
    private static final String FACE = "apart(int) bestCell(int,int) bestMesh(int,int) bestTwo(int,int,int) both() "
        + "carry(int) clear(int,int) coast() drift(int) fault() feed(int) fog(int,int) gets(int,int) goBack(int) "
        + "goat(int,int) got(int,int,int) hour(int) judge() keep(int) lamp(boolean) lampCosts(int) lasts(int) "
        + "led(int,int,int) left() level(int,int) lick(int,int) lookAt(int) mesh(int,int) move(int,int) "
        + "needs(int,int,int) post(int,int) seed(int) shadow(int) share(int,int) tear() thick(int) thirsty(int) "
        + "told(int) undo(int) village(int,int) write(int,int) yards(int,int)";

    private static final Path SOURCE = Path.of("src/main/java/FogNets.java");

    public static void main(String[] args) throws Exception {
        face();
        constants();
        innerClasses();
        source();
        library();
        room();
        nothingIsMade();
        Check.end();
    }

    private static void yes(String what, boolean is) {
        Check.due(what, is ? 1 : 0, 1);
    }

    private static void face() {
        yes("public and final", Modifier.isPublic(FogNets.class.getModifiers()) && Modifier.isFinal(FogNets.class.getModifiers()));
        yes("no package", FogNets.class.getPackageName().isEmpty());
        Set<String> names = new TreeSet<>();
        Set<String> calls = new TreeSet<>();
        for (Method m : FogNets.class.getDeclaredMethods()) {
            if (!Modifier.isPublic(m.getModifiers())) continue;
            StringBuilder call = new StringBuilder(m.getName()).append('(');
            for (Class<?> type : m.getParameterTypes()) call.append(call.charAt(call.length() - 1) == '(' ? "" : ",").append(type);
            calls.add(call.append(')').toString());
            names.add(m.getName());
            yes(m.getName() + " answers an int, of an object", m.getReturnType() == int.class && !Modifier.isStatic(m.getModifiers()));
        }
        String all = String.join(" ", calls);
        if (!all.equals(FACE)) System.out.println(all + "\n" + FACE);
        yes("the face's calls", all.equals(FACE));
        yes("43 promises", calls.size() + 1 == 43);
        for (Method m : FogNets.class.getDeclaredMethods()) {
            if (Modifier.isPublic(m.getModifiers())) continue;
            yes(m.getName() + " is private", Modifier.isPrivate(m.getModifiers()));
            yes(m.getName() + " has no public one's name", !names.contains(m.getName()));
        }
        Constructor<?>[] made = FogNets.class.getDeclaredConstructors();
        yes("one constructor", made.length == 1 && made[0].getParameterCount() == 0 && Modifier.isPublic(made[0].getModifiers()));
    }

    private static void constants() throws Exception {
        Set<String> names = new TreeSet<>();
        for (Field f : FogNets.class.getDeclaredFields()) {
            if (Modifier.isStatic(f.getModifiers())) yes(f.getName() + " is final", Modifier.isFinal(f.getModifiers()));
            if (Modifier.isPublic(f.getModifiers())) names.add(f.getName() + "=" + f.getInt(null));
            else yes(f.getName() + " is private", Modifier.isPrivate(f.getModifiers()));
        }
        yes("constants " + names, names.toString().equals(
            "[FULL=-1000000004, NONE=-1, NOT=-1000000003, OUTSIDE=-1000000002, UNKNOWN=-1000000001]"));
    }

    private static void innerClasses() {
        Class<?>[] inner = FogNets.class.getDeclaredClasses();
        yes("twelve classes at most", inner.length <= 11);
        for (Class<?> c : inner) {
            yes(c.getName() + " is static", Modifier.isStatic(c.getModifiers()));
            yes(c.getName() + " is not public", !Modifier.isPublic(c.getModifiers()) && !Modifier.isProtected(c.getModifiers()));
            yes(c.getName() + " has twenty fields at most", c.getDeclaredFields().length <= 20);
            for (Method m : c.getDeclaredMethods()) {
                yes(c.getName() + "." + m.getName() + " has no public one's name", !(" " + FACE).contains(" " + m.getName() + "("));
            }
            for (Field f : c.getDeclaredFields()) {
                yes(c.getName() + "." + f.getName() + " is of the object, or final", !Modifier.isStatic(f.getModifiers())
                    || Modifier.isFinal(f.getModifiers()));
            }
        }
    }

    /** The source without its comments. */
    private static String code() throws IOException {
        return Files.readString(SOURCE).replaceAll("(?s)/\\*.*?\\*/", "").replaceAll("//[^\n]*", "");
    }

    private static void source() throws IOException {
        String text = Files.readString(SOURCE);
        String code = code();
        for (String word : new String[] {"throw", "throws", "try", "catch", "synchronized", "assert", "package", "import",
            "String", "Exact", "float", "double", "equals", "hashCode", "toString", "System.currentTimeMillis", "Random",
            "Thread", "File"}) {
            yes("no " + word, !Pattern.compile("\\b" + Pattern.quote(word) + "\\b").matcher(code).find());
        }
        for (String sign : new String[] {"->", "::", "\""}) yes("no " + sign, !code.contains(sign));
        yes("plain signs alone", text.chars().allMatch(sign -> sign == '\n' || sign >= 32 && sign < 127));
        Matcher method = Pattern.compile("(?m)^( {4}| {8})(?:\\w[\\w\\[\\] ]*) (\\w+)\\(([^)]*)\\) \\{\n").matcher(code);
        int seen = 0;
        while (method.find()) {
            seen++;
            int end = code.indexOf("\n" + method.group(1) + "}\n", method.start());
            long lines = code.substring(method.start(), end).lines().count();
            yes(method.group(2) + " is short", lines <= 60);
            yes(method.group(2) + " takes seven at most", method.group(3).split(",").length <= 7);
        }
        yes("methods were seen", seen > 43);
    }

    /** What is called of a class by name must stand in rule 4; what is made must be a row or one of our own. */
    private static void library() throws IOException {
        String code = code();
        Set<String> called = new TreeSet<>();
        Matcher call = Pattern.compile("\\b([A-Z]\\w*[a-z]\\w*)\\.(\\w+)").matcher(code);
        while (call.find()) called.add(call.group(1) + "." + call.group(2));
        yes("the library's calls " + called, Set.of("Integer.bitCount", "Long.bitCount", "Math.abs", "Math.max", "Math.min",
            "System.arraycopy").containsAll(called));
        Set<String> own = new TreeSet<>();
        for (Class<?> c : FogNets.class.getDeclaredClasses()) own.add(c.getSimpleName());
        Matcher made = Pattern.compile("\\bnew (\\w+)(.)").matcher(code);
        while (made.find()) {
            yes("new " + made.group(1), own.contains(made.group(1)) || made.group(1).equals("int") && made.group(2).equals("["));
        }
    }

    /** A run's room has some 600,000 objects and arrays, 7.3 million fields and elements: a thousand FogNets need less. */
    private static void room() throws IllegalAccessException {
        List<Object> found = new ArrayList<>();
        found.add(new FogNets());
        Set<Object> seen = Collections.newSetFromMap(new IdentityHashMap<>());
        seen.addAll(found);
        int parts = 0;
        for (int i = 0; i < found.size(); i++) {
            Object x = found.get(i);
            List<Object> held = new ArrayList<>();
            if (x instanceof int[] row) {
                parts += row.length;
            } else if (x instanceof Object[] row) {
                parts += row.length;
                held.addAll(Arrays.asList(row));
            } else {
                for (Field f : x.getClass().getDeclaredFields()) {
                    if (Modifier.isStatic(f.getModifiers())) continue;
                    parts++;
                    f.setAccessible(true);
                    if (!f.getType().isPrimitive()) held.add(f.get(x));
                }
            }
            for (Object h : held) {
                if (h != null && seen.add(h)) found.add(h);
            }
        }
        yes("objects and arrays of one FogNets: " + found.size(), found.size() > 1 && found.size() <= 600);
        yes("fields and elements of one FogNets: " + parts, parts > 1 && parts <= 7300);
    }

    /** All calls of a run live in one room: only the constructor makes anything. */
    private static void nothingIsMade() {
        com.sun.management.ThreadMXBean bean = (com.sun.management.ThreadMXBean) ManagementFactory.getThreadMXBean();
        callAll(Check.coast(CoastTest.COAST));
        FogNets x = new FogNets();
        long thread = Thread.currentThread().getId();
        long before = bean.getThreadAllocatedBytes(thread);
        callAll(x);
        long made = bean.getThreadAllocatedBytes(thread) - before;
        yes("bytes made by all calls: " + made, made < 2000);
    }

    private static int callAll(FogNets x) {
        int sum = 0;
        for (int i = 0; i < CoastTest.COAST.length(); i++) sum += x.feed(CoastTest.COAST.charAt(i));
        sum += x.coast() + x.fault();
        for (int i = 0; i < 5; i++) {
            sum += x.told(10) + x.post(0, 0) + x.fog(-1, 1) + x.village(0, 0) + x.goat(0, 0);
            sum += x.hour(60) + x.carry(0) + x.lick(0, 1) + x.mesh(0, 5) + x.move(0, 2) + x.lamp(true) + x.drift(60);
            sum += x.undo(3) + x.gets(0, 99) + x.level(0, 99) + x.shadow(0) + x.left() + x.bestMesh(0, 0);
            sum += x.bestCell(0, 0) + x.bestTwo(0, 1, 0) + x.lampCosts(99) + x.thirsty(0) + x.lasts(0) + x.both();
            sum += x.apart(99) + x.share(99, 0) + x.led(9, 0, 1) + x.yards(0, 0) + x.clear(60, 99) + x.got(0, 0, 1);
            sum += x.thick(0) + x.lookAt(0) + x.needs(0, 0, 40) + x.write(0, 1) + x.judge() + x.tear();
            sum += x.seed(5) + x.keep(0) + x.goBack(0);
        }
        return sum;
    }
}
