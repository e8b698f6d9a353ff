import java.lang.management.ManagementFactory;
import java.lang.reflect.Constructor;
import java.lang.reflect.Field;
import java.lang.reflect.Method;
import java.lang.reflect.Modifier;
import java.util.Set;
import java.util.TreeSet;

/** The public face, and that calls make nothing: a run's room is what its constructors make. */
public final class FaceTest {
    private static final String[] METHODS = {
        "int about(int)", "int again(int)", "int chance(int,int,int,boolean)", "int cut(int)",
        "int drawn(int,int)", "int fault()", "int flip(int)", "int forget()",
        "int guess(int,int)", "int hear(int,int)", "int judge(int,long)", "int keep(int)",
        "int know(int,int)", "int letter(int,int,boolean)", "int level(int)", "int off(int)",
        "int run(int)", "int send(int,int)", "int share(int,boolean)", "int take()",
        "int undo()", "int wipe()", "int write(int)", "long seed(long)"};
    private static final String[] CONSTANTS = {"BAD", "FULL", "LATE", "NONE", "UNKNOWN"};

    private FaceTest() {
    }

    public static void main(String[] args) {
        classItself();
        methods();
        constants();
        room();
        Due.close("FaceTest");
    }

    private static void classItself() {
        int modifiers = WireGuess.class.getModifiers();
        Due.holds("public", Modifier.isPublic(modifiers));
        Due.holds("final", Modifier.isFinal(modifiers));
        Due.holds("no package", WireGuess.class.getPackageName().isEmpty());
        Constructor<?>[] constructors = WireGuess.class.getDeclaredConstructors();
        Due.is("constructors", constructors.length, 1);
        Due.holds("public constructor", Modifier.isPublic(constructors[0].getModifiers()));
        Due.is("its parameters", constructors[0].getParameterCount(), 0);
        for (Class<?> inside : WireGuess.class.getDeclaredClasses()) {
            Due.holds(inside + " is static", Modifier.isStatic(inside.getModifiers()));
            Due.holds(inside + " is not public", !Modifier.isPublic(inside.getModifiers()));
        }
    }

    private static void methods() {
        Set<String> found = new TreeSet<>();
        Set<String> names = new TreeSet<>();
        for (Method method : WireGuess.class.getDeclaredMethods()) {
            if (!Modifier.isPrivate(method.getModifiers())) {
                found.add(told(method));
                names.add(method.getName());
            }
        }
        Due.holds("methods " + found, found.equals(new TreeSet<>(Set.of(METHODS))));
        for (Method method : WireGuess.class.getDeclaredMethods()) {
            if (Modifier.isPrivate(method.getModifiers())) {
                Due.holds(method + " bears another name", !names.contains(method.getName()));
            }
        }
        for (Class<?> inside : WireGuess.class.getDeclaredClasses()) {
            for (Method method : inside.getDeclaredMethods()) {
                Due.holds(method + " bears another name", !names.contains(method.getName()));
            }
        }
    }

    private static String told(Method method) {
        StringBuilder told = new StringBuilder();
        for (Class<?> parameter : method.getParameterTypes()) {
            told.append(told.length() == 0 ? "" : ",").append(parameter.getName());
        }
        return method.getReturnType().getName() + " " + method.getName() + "(" + told + ")";
    }

    private static void constants() {
        Set<String> found = new TreeSet<>();
        for (Field field : WireGuess.class.getDeclaredFields()) {
            if (!Modifier.isPrivate(field.getModifiers())) {
                found.add(field.getName());
            }
        }
        Due.holds("constants " + found, found.equals(new TreeSet<>(Set.of(CONSTANTS))));
        Due.is("UNKNOWN", WireGuess.UNKNOWN, -1);
        Due.is("BAD", WireGuess.BAD, -2);
        Due.is("LATE", WireGuess.LATE, -3);
        Due.is("FULL", WireGuess.FULL, -4);
        Due.is("NONE", WireGuess.NONE, -9);
    }

    /** Some bytes are left free for what the machine itself makes meanwhile. */
    private static void room() {
        WireGuess x = new WireGuess();
        everyCall(x);
        long before = allocated();
        for (int k = 0; k < 12; k++) {
            everyCall(x);
        }
        long made = allocated() - before;
        Due.holds("calls make nothing, not " + made + " bytes", made < 4096);
        before = allocated();
        new WireGuess();
        made = allocated() - before;
        Due.holds("an object stays small, not " + made + " bytes", made < 40000);
    }

    private static long allocated() {
        com.sun.management.ThreadMXBean threads =
            (com.sun.management.ThreadMXBean) ManagementFactory.getThreadMXBean();
        return threads.getThreadAllocatedBytes(Thread.currentThread().getId());
    }

    private static void everyCall(WireGuess x) {
        x.wipe();
        x.write('S');
        x.write('1');
        x.fault();
        x.take();
        x.send(48110, 65);
        x.send(48110, 90);
        x.hear(1, 3);
        x.flip(4);
        x.undo();
        x.cut(2);
        x.undo();
        x.level(1);
        x.run(2);
        x.off(4);
        x.guess(48110, 4);
        x.letter(48110, 0, false);
        x.judge(3, 200630145041L);
        x.forget();
        x.know(0, 65);
        x.share(0, true);
        x.chance(48110, 6, 2, true);
        x.seed(9);
        x.drawn(48110, 10);
        x.keep(0);
        x.again(0);
        for (int what = 0; what <= 10; what++) {
            x.about(what);
        }
    }
}
