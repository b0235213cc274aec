import java.lang.management.ManagementFactory;
import java.lang.reflect.Constructor;
import java.lang.reflect.Field;
import java.lang.reflect.Method;
import java.lang.reflect.Modifier;
import java.util.TreeSet;

/** The public face is the document's and nothing else, and all memory is made at first. */
public final class FaceTest {
    private static final String ARGUMENT = " throws IllegalArgumentException";
    private static final String STATE_TOO = ARGUMENT + ", IllegalStateException";
    private static final String[] METHODS = {
        "boolean port(int, boolean)" + ARGUMENT, "int greeting(int, int, boolean)" + STATE_TOO,
        "int advert(int, int, int, int, int)" + STATE_TOO, "boolean thanks(int, int, int, int)" + STATE_TOO,
        "int own(int)", "boolean forget(int)" + ARGUMENT, "int run(int)" + STATE_TOO, "boolean next()",
        "int message(int)" + STATE_TOO, "long named()", "int state(int, int)" + ARGUMENT,
        "int known(int)" + ARGUMENT, "int body(int)" + ARGUMENT, "int due(int, int)" + ARGUMENT,
        "int count(boolean)", "int time()"};

    public static void main(String[] args) {
        classAndConstructor();
        methods();
        fields();
        callsMakeNothing();
        Check.end("FaceTest");
    }

    private static void classAndConstructor() {
        int modifiers = DeskBench.class.getModifiers();
        Check.same("the class is public and final", Modifier.isPublic(modifiers) && Modifier.isFinal(modifiers), true);
        Constructor<?>[] all = DeskBench.class.getDeclaredConstructors();
        Check.same("one constructor", all.length, 1);
        Check.same("the constructor", all[0].toString(), "public DeskBench(int)");
    }

    private static void methods() {
        TreeSet<String> want = new TreeSet<>();
        for (String method : METHODS) {
            want.add(method);
        }
        TreeSet<String> got = new TreeSet<>();
        for (Method method : DeskBench.class.getDeclaredMethods()) {
            if (!Modifier.isPrivate(method.getModifiers())) {
                got.add(signature(method));
                Check.same(method.getName() + " is public", Modifier.isPublic(method.getModifiers()), true);
            }
        }
        Check.same("the methods", got.toString(), want.toString());
    }

    private static String signature(Method method) {
        String thrown = names(method.getExceptionTypes());
        return method.getReturnType().getName() + " " + method.getName()
                + "(" + names(method.getParameterTypes()) + ")" + (thrown.isEmpty() ? "" : " throws " + thrown);
    }

    private static String names(Class<?>[] types) {
        StringBuilder text = new StringBuilder();
        for (Class<?> type : types) {
            text.append(text.length() == 0 ? "" : ", ").append(type.getSimpleName());
        }
        return text.toString();
    }

    private static void fields() {
        TreeSet<String> got = new TreeSet<>();
        for (Field field : DeskBench.class.getDeclaredFields()) {
            if (!Modifier.isPrivate(field.getModifiers())) {
                got.add(field.toString());
            }
        }
        Check.same("the fields", got.toString(), "[public static final int DeskBench.NONE]");
    }

    /** The least of some rounds counts, since the machine itself may make things now and then. */
    private static void callsMakeNothing() {
        com.sun.management.ThreadMXBean threads =
                (com.sun.management.ThreadMXBean) ManagementFactory.getThreadMXBean();
        long least = Long.MAX_VALUE;
        for (int round = 0; round < 20; round++) {
            Bench x = Check.withPorts(1, 8);
            long before = threads.getCurrentThreadAllocatedBytes();
            useAll(x);
            least = Math.min(least, threads.getCurrentThreadAllocatedBytes() - before);
        }
        Check.same("bytes that calls make", least, 0L);
    }

    private static void useAll(Bench x) {
        for (int i = 0; i < 20; i++) {
            x.greeting(i % 8, 2 + i, true);
            x.advert(i % 8, 2 + i, 30 + i, 1 + i, i);
            x.advert(0, 2, 30 + i, 1, i);
            x.own(i);
            x.thanks(0, 2, 1, 1 + i);
            x.next();
            x.message(0);
            x.named();
            x.run(1 + i);
            x.forget(30 + i / 2);
            x.state(0, 2);
            x.known(1);
            x.body(1);
            x.due(0, 2);
            x.count(true);
            x.time();
            x.port(i % 8, i % 3 != 0);
            x.port(i % 8, true);
        }
    }
}
