import java.lang.reflect.Method;
import java.lang.reflect.Modifier;
import java.util.ArrayList;
import java.util.HashMap;
import java.util.List;
import java.util.Map;
import java.util.regex.Matcher;
import java.util.regex.Pattern;

/**
 * Runs of calls on a new object, told in one line: "coast&lt;f1 0;&gt;=0 2xhour(60)=0 hour(61)=OUTSIDE". A call
 * without '=' may answer anything; coast&lt;..&gt; feeds a text and calls coast(), feed&lt;..&gt; only feeds it.
 * Of each refused call it is looked at whether anything is otherwise by it. No object gets more than 512 calls.
 */
final class Script {
    private static final int MOST_CALLS = 512;
    private static final Pattern CALL = Pattern.compile(
        "(?:(\\d+)x)?([a-zA-Z]+)(?:\\(([^)]*)\\)|<([^>]*)>)(?:=(-?\\w+))?");
    private static final Map<String, Integer> NAMES = Map.of("NONE", Check.NONE, "UNKNOWN", Check.UNKNOWN,
        "OUTSIDE", Check.OUTSIDE, "NOT", Check.NOT, "FULL", Check.FULL,
        "MIN", Integer.MIN_VALUE, "MAX", Integer.MAX_VALUE);
    private static final Map<String, Method> METHODS = methods();

    /** What is done to an object ahead of looking at it, so that each thing that it keeps is seen. */
    private static final String[] PROBES = {"", "coast() fault()", "undo(1)", "undo(2)", "undo(7)", "undo(30)",
        "goBack(0)", "goBack(1)"};

    private final List<Method> calls = new ArrayList<>();
    private final List<Object[]> given = new ArrayList<>();
    private final List<Integer> wanted = new ArrayList<>();

    private Script(String told) {
        Matcher call = CALL.matcher(told);
        int end = 0;
        while (call.find()) {
            if (!told.substring(end, call.start()).isBlank()) throw new IllegalArgumentException(told);
            end = call.end();
            int times = call.group(1) == null ? 1 : Integer.parseInt(call.group(1));
            for (int k = 0; k < times; k++) add(call);
        }
        if (!told.substring(end).isBlank()) throw new IllegalArgumentException(told.substring(end));
    }

    /** All answers must be as told, and no refused call may change anything. */
    static void edge(String sentence, String told) {
        new Script(told).run(sentence);
    }

    /** Behind both runs all must be alike; letters still to be read and the last fault too. */
    static void alike(String sentence, String told, String other) {
        Script a = new Script(told);
        Script b = new Script(other);
        compare(sentence, a, a.calls.size(), b, b.calls.size(), false);
    }

    /** A text with this fault leaves all as it was: the fault alone is told. */
    static void faultLeavesAll(String sentence, String told, String text, int answer, int place) {
        edge(sentence, told + " coast<" + text + ">=" + answer + " fault()=" + place + " told(5)=0");
        Script a = new Script(told);
        Script b = new Script(told + " coast<" + text + ">");
        compare(sentence, a, a.calls.size(), b, b.calls.size(), true);
    }

    /** The last call must have an answer that is no refusal. */
    static void dueAnswer(String sentence, String told) {
        Script s = new Script(told);
        int last = s.calls.size() - 1;
        int answer = s.answer(s.replay(last), last);
        Check.due(sentence + ": " + s.tell(last) + " answered " + answer, isRefusal(answer) ? 1 : 0, 0);
    }

    /** A new object with which this has been done. */
    static FogNets done(String told) {
        Script s = new Script(told);
        return s.replay(s.calls.size());
    }

    private static boolean isRefusal(int answer) {
        return answer <= Check.UNKNOWN && answer >= Check.FULL;
    }

    private static Map<String, Method> methods() {
        Map<String, Method> all = new HashMap<>();
        for (Method m : FogNets.class.getDeclaredMethods()) {
            if (Modifier.isPublic(m.getModifiers())) all.put(m.getName(), m);
        }
        return all;
    }

    private void add(Matcher call) {
        String name = call.group(2);
        Integer want = call.group(5) == null ? null : Integer.valueOf(number(call.group(5)));
        if (call.group(4) == null) {
            addCall(name, call.group(3), want);
            return;
        }
        for (char letter : call.group(4).toCharArray()) addCall("feed", String.valueOf((int) letter), null);
        if (name.equals("coast")) addCall("coast", "", want);
        else if (!name.equals("feed")) throw new IllegalArgumentException(name);
    }

    private void addCall(String name, String arguments, Integer want) {
        Method m = METHODS.get(name);
        String[] told = arguments.isBlank() ? new String[0] : arguments.split(",");
        if (m == null || m.getParameterCount() != told.length) throw new IllegalArgumentException(name + arguments);
        Object[] values = new Object[told.length];
        for (int k = 0; k < told.length; k++) {
            String x = told[k].trim();
            if (m.getParameterTypes()[k] == boolean.class) values[k] = x.equals("true");
            else values[k] = number(x);
        }
        calls.add(m);
        given.add(values);
        wanted.add(want);
    }

    private static int number(String told) {
        return NAMES.containsKey(told) ? NAMES.get(told) : Integer.parseInt(told);
    }

    private void run(String sentence) {
        FogNets x = new FogNets();
        for (int i = 0; i < calls.size(); i++) {
            int answer = answer(x, i);
            Integer want = wanted.get(i);
            if (want == null) continue;
            Check.due(sentence + ": " + tell(i), answer, want);
            if (isRefusal(want)) compare(sentence + ": by " + tell(i), this, i, this, i + 1, false);
        }
    }

    private int answer(FogNets x, int i) {
        if (i >= MOST_CALLS) throw new IllegalStateException("more than 512 calls");
        try {
            return (Integer) calls.get(i).invoke(x, given.get(i));
        } catch (ReflectiveOperationException e) {
            throw new IllegalStateException(tell(i), e);
        }
    }

    private String tell(int i) {
        StringBuilder call = new StringBuilder(calls.get(i).getName()).append('(');
        for (Object x : given.get(i)) call.append(call.charAt(call.length() - 1) == '(' ? "" : ", ").append(x);
        return call.append(") as call ").append(i).toString();
    }

    private FogNets replay(int many) {
        FogNets x = new FogNets();
        for (int i = 0; i < many; i++) answer(x, i);
        return x;
    }

    /** Looks at the first calls of a and of b from all sides: what is seen must be the same. */
    private static void compare(String what, Script a, int ofA, Script b, int ofB, boolean butFault) {
        int unlike = 0;
        for (String probe : PROBES) {
            Script p = new Script(probe);
            String first = p.look(a.replay(ofA), ofA);
            String second = p.look(b.replay(ofB), ofB);
            if (butFault) {
                first = first.replaceAll("fault=-?\\d+", "");
                second = second.replaceAll("fault=-?\\d+", "");
            }
            if (first.equals(second)) continue;
            unlike++;
            System.out.println(what + ", seen by '" + probe + "'\n  " + first + "\n  " + second);
        }
        Check.due(what + ": what is otherwise", unlike, 0);
    }

    private String look(FogNets x, int calledSoFar) {
        StringBuilder seen = new StringBuilder();
        for (int i = 0; i < calls.size(); i++) seen.append(answer(x, i)).append(' ');
        if (calledSoFar + calls.size() + Seen.CALLS + 1 > MOST_CALLS) throw new IllegalStateException("more than 512 calls");
        seen.append(Seen.all(x)).append(" seed ").append(x.seed(0));
        return seen.toString();
    }
}
