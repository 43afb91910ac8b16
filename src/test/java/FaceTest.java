import java.lang.reflect.Field;
import java.lang.reflect.Method;
import java.lang.reflect.Modifier;
import java.util.Set;
import java.util.TreeSet;

/** The face: its constants, its constructor and its methods, and nothing beside them; none throws, and there is room for all. */
public final class FaceTest {
    private static final Due due = new Due("FaceTest");

    private static final String[] METHODS = {"write(int)", "wipe()", "fault()", "lay()", "person(int, int)", "pin(int, int)",
        "heart(int)", "stick(int)", "feel(int, int)", "bear(int, int)", "pass(int)", "undo()", "behind(int, int)",
        "walked(int)", "breaks(int)", "door()", "best(int, int)", "share(int)", "relief(int)", "pair(int)",
        "see(int, int, int)", "mark(int)", "forget()", "kinds(int)", "which(int, int)", "bad(int, int, int, int)",
        "month(int, int, int)", "keep()", "back()", "count(int)"};

    public static void main(String[] args) throws ReflectiveOperationException {
        constants();
        methods();
        wildNumbers();
        room();
        due.end();
    }

    private static void constants() throws ReflectiveOperationException {
        int publicOnes = 0;
        for (Field field : HeartPins.class.getDeclaredFields()) {
            if (Modifier.isPublic(field.getModifiers())) {
                publicOnes++;
            } else {
                due.is("private: " + field, Modifier.isPrivate(field.getModifiers()) ? 1 : 0, 1);
            }
        }
        due.is("public constants", publicOnes, 4);
        due.is("BAD", HeartPins.class.getField("BAD").getInt(null), -1);
        due.is("NO", HeartPins.class.getField("NO").getInt(null), -2);
        due.is("FULL", HeartPins.class.getField("FULL").getInt(null), -3);
        due.is("NONE", HeartPins.class.getField("NONE").getInt(null), -4);
        due.is("constructors", HeartPins.class.getConstructors().length, 1);
        due.is("final", Modifier.isFinal(HeartPins.class.getModifiers()) ? 1 : 0, 1);
    }

    private static void methods() {
        Set<String> want = new TreeSet<>();
        for (String method : METHODS) {
            want.add("int " + method);
        }
        Set<String> got = new TreeSet<>();
        Set<String> names = new TreeSet<>();
        for (Method method : HeartPins.class.getDeclaredMethods()) {
            if (Modifier.isPublic(method.getModifiers())) {
                got.add(signature(method));
                names.add(method.getName());
            }
        }
        due.is("the methods " + got, got.equals(want) ? 1 : 0, 1);
        for (Method method : HeartPins.class.getDeclaredMethods()) {
            if (!Modifier.isPublic(method.getModifiers())) {
                due.is("private: " + method, Modifier.isPrivate(method.getModifiers()) ? 1 : 0, 1);
                due.is("with a name of its own: " + method, names.contains(method.getName()) ? 1 : 0, 0);
            }
        }
    }

    private static String signature(Method method) {
        StringBuilder s = new StringBuilder(method.getReturnType() + " " + method.getName() + "(");
        for (Class<?> type : method.getParameterTypes()) {
            s.append(s.charAt(s.length() - 1) == '(' ? "" : ", ").append(type);
        }
        return s.append(")").toString();
    }

    /** Each method with each number beside its bounds: none throws. */
    private static void wildNumbers() throws ReflectiveOperationException {
        int[] wild = {Integer.MIN_VALUE, -65536, -2, -1, 0, 1, 3, 8, 13, 41, 61, 200, 10000, Integer.MAX_VALUE};
        for (String text : new String[] {"", "p1;", "p0;p60;t1,3,20;h0,1,1;"}) {
            for (Method method : HeartPins.class.getDeclaredMethods()) {
                if (Modifier.isPublic(method.getModifiers())) {
                    everyWay(text, method, wild);
                }
            }
        }
    }

    private static void everyWay(String text, Method method, int[] wild) throws ReflectiveOperationException {
        int many = method.getParameterCount();
        int ways = (int) Math.round(Math.pow(wild.length, many));
        HeartPins x = null;
        for (int way = 0; way < ways; way++) {
            if (way % 400 == 0) {
                x = text.isEmpty() ? new HeartPins() : Due.laid(text);
            }
            Object[] numbers = new Object[many];
            int rest = way;
            for (int i = 0; i < many; i++) {
                numbers[i] = wild[rest % wild.length];
                rest /= wild.length;
            }
            int answer = (Integer) method.invoke(x, numbers);
            due.is(method.getName() + " answers no less than NONE", answer >= HeartPins.NONE ? 1 : 0, 1);
        }
    }

    /**
     * "All calls of one run live in ONE room: some 600,000 objects and arrays": each of them takes 16 bytes or more, so a
     * run of 512 calls on each of two objects may not take more than as many times 16.
     */
    private static void room() {
        com.sun.management.ThreadMXBean bean =
            (com.sun.management.ThreadMXBean) java.lang.management.ManagementFactory.getThreadMXBean();
        everyCall(new HeartPins(), new HeartPins());
        bean.getCurrentThreadAllocatedBytes();
        long before = bean.getCurrentThreadAllocatedBytes();
        HeartPins x = new HeartPins();
        HeartPins y = new HeartPins();
        long sum = 0;
        for (int i = 0; i < 16; i++) {
            sum += everyCall(x, y);
        }
        long made = bean.getCurrentThreadAllocatedBytes() - before;
        due.is("calls answer (" + sum + "), and there is room for them: " + made, made < 16 * 600_000 ? 1 : 0, 1);
    }

    private static int everyCall(HeartPins x, HeartPins y) {
        int sum = y.write('p') + y.write('1') + y.write(';') + y.fault() + y.lay() + y.wipe();
        sum += x.person(0, 1) + x.pin(0, 2) + x.heart(4) + x.stick(0) + x.feel(0, 0) + x.bear(0, 1) + x.pass(3) + x.undo();
        sum += x.behind(60, 0) + x.walked(60) + x.breaks(0) + x.door() + x.best(20, 1) + x.share(-1) + x.relief(0) + x.pair(9);
        sum += x.see(0, 1, 5) + x.mark(5) + x.kinds(0) + x.which(2, -1) + x.forget() + x.bad(0, 8, 5, 0);
        sum += x.month(5, 60, 0) + x.keep() + x.back() + x.count(3) + x.stick(1) + x.undo();
        return sum;
    }
}
