import java.lang.reflect.Constructor;
import java.lang.reflect.Field;
import java.lang.reflect.InvocationTargetException;
import java.lang.reflect.Method;
import java.lang.reflect.Modifier;
import java.util.Arrays;
import java.util.Set;
import java.util.TreeSet;

/** The class has just the document's face, and no call throws by itself, not even far beyond the 512th one. */
public final class FaceTest {
    private static final String INDEX = "IndexOutOfBoundsException";
    private static final String ARGUMENT = "IllegalArgumentException";
    private static final String STATE = "IllegalStateException";
    private static final String[] FACE = {
        "int pass(int) " + ARGUMENT + " " + STATE,
        "int time()",
        "int setOpening(int) " + ARGUMENT,
        "int code(int,int) " + ARGUMENT + " " + STATE,
        "int used(int,int) " + INDEX,
        "int join(int) " + INDEX + " " + STATE,
        "int quit(int) " + INDEX + " " + STATE,
        "int queueAt(int) " + INDEX,
        "int served()",
        "int hold(int,int,int,int,int) " + INDEX + " " + ARGUMENT + " " + STATE,
        "int pay(int,int) " + INDEX + " " + ARGUMENT + " " + STATE,
        "int letGo(int) " + INDEX + " " + STATE,
        "int lapses(int) " + INDEX,
        "int state(int) " + INDEX,
        "int owner(int) " + INDEX,
        "int ownerBySales(int) " + INDEX,
        "boolean isSingle(int) " + INDEX,
        "int firstOpen(int,int) " + INDEX + " " + ARGUMENT,
        "int offer(int,int,int) " + INDEX + " " + ARGUMENT + " " + STATE,
        "int retract(int) " + INDEX + " " + STATE,
        "int spent(int) " + INDEX,
        "int takings()",
    };
    private static final int CALLS = 200_000;

    private static int wrong = 0;

    public static void main(String[] args) throws ReflectiveOperationException {
        methods();
        fields();
        constructors();
        insideClasses();
        callsWithoutEnd();
        System.out.println(wrong == 0 ? "the face is as due" : wrong + " faults");
        if (wrong != 0) {
            System.exit(1);
        }
    }

    private static void fault(String what) {
        wrong++;
        System.out.println(what);
    }

    private static String told(Method method) {
        StringBuilder all = new StringBuilder(method.getReturnType().getSimpleName()).append(' ').append(method.getName());
        all.append('(');
        for (int i = 0; i < method.getParameterCount(); i++) {
            all.append(i == 0 ? "" : ",").append(method.getParameterTypes()[i].getSimpleName());
        }
        all.append(')');
        for (Class<?> thrown : method.getExceptionTypes()) {
            all.append(' ').append(thrown.getSimpleName());
        }
        return all.toString();
    }

    private static void methods() {
        Set<String> due = new TreeSet<>(Arrays.asList(FACE));
        Set<String> got = new TreeSet<>();
        for (Method method : AuditoriumKeys.class.getDeclaredMethods()) {
            if (Modifier.isPublic(method.getModifiers()) && !Modifier.isStatic(method.getModifiers())) {
                got.add(told(method));
            } else if (!Modifier.isPrivate(method.getModifiers())) {
                fault("neither public nor private: " + method);
            }
        }
        if (!got.equals(due)) {
            fault("the public methods are " + got + ", due are " + due);
        }
    }

    private static void fields() throws IllegalAccessException {
        Set<String> got = new TreeSet<>();
        for (Field field : AuditoriumKeys.class.getDeclaredFields()) {
            int kind = field.getModifiers();
            if (Modifier.isPublic(kind) && Modifier.isStatic(kind) && Modifier.isFinal(kind)) {
                got.add(field.getType() + " " + field.getName() + " " + field.get(null));
            } else if (!Modifier.isPrivate(kind)) {
                fault("neither a constant nor private: " + field);
            }
        }
        Set<String> due = Set.of("int NONE -1", "int FREE 0", "int HELD 1", "int SOLD 2", "int OFFERED 3");
        if (!got.equals(due)) {
            fault("the constants are " + got + ", due are " + due);
        }
    }

    private static void constructors() {
        Constructor<?>[] all = AuditoriumKeys.class.getDeclaredConstructors();
        if (all.length != 1 || all[0].getParameterCount() != 0 || !Modifier.isPublic(all[0].getModifiers())) {
            fault("not just one public constructor without parameters");
        }
        int kind = AuditoriumKeys.class.getModifiers();
        if (!Modifier.isPublic(kind) || !Modifier.isFinal(kind)) {
            fault("the class is not public and final");
        }
    }

    private static void insideClasses() {
        Set<String> names = new TreeSet<>();
        for (String line : FACE) {
            names.add(line.substring(line.indexOf(' ') + 1, line.indexOf('(')));
        }
        checkNames(AuditoriumKeys.class, names);
        for (Class<?> inside : AuditoriumKeys.class.getDeclaredClasses()) {
            int kind = inside.getModifiers();
            if (Modifier.isPublic(kind) || Modifier.isProtected(kind) || !Modifier.isStatic(kind)) {
                fault("not private or package-visible and static: " + inside);
            }
            checkNames(inside, names);
        }
    }

    private static void checkNames(Class<?> holder, Set<String> names) {
        for (Method method : holder.getDeclaredMethods()) {
            if (Modifier.isPrivate(method.getModifiers()) && names.contains(method.getName())) {
                fault("a private method bears a public one's name: " + method);
            }
        }
        for (Field field : holder.getDeclaredFields()) {
            if (Modifier.isStatic(field.getModifiers()) && !Modifier.isFinal(field.getModifiers())) {
                fault("a static field is not final: " + field);
            }
        }
    }

    /** What these calls answer is free, but what they throw is not: only what their throws clauses name. */
    private static void callsWithoutEnd() throws ReflectiveOperationException {
        Method[] methods = new Method[FACE.length];
        int count = 0;
        for (Method method : AuditoriumKeys.class.getDeclaredMethods()) {
            if (Modifier.isPublic(method.getModifiers())) {
                methods[count++] = method;
            }
        }
        Arrays.sort(methods, (a, b) -> told(a).compareTo(told(b)));
        AuditoriumKeys x = new AuditoriumKeys();
        sellOften(x);
        long seed = 1;
        for (int call = 0; call < CALLS && wrong == 0; call++) {
            seed = seed * 6364136223846793005L + 1442695040888963407L;
            Method method = methods[(int) ((seed >>> 33) % methods.length)];
            Object[] given = new Object[method.getParameterCount()];
            for (int i = 0; i < given.length; i++) {
                seed = seed * 6364136223846793005L + 1442695040888963407L;
                given[i] = number((int) ((seed >>> 33) % 1000));
            }
            tryOut(method, x, given);
        }
    }

    private static int number(int dice) {
        if (dice < 700) {
            return dice % 10;
        }
        if (dice < 900) {
            return dice % 60;
        }
        int[] edges = {Integer.MIN_VALUE, Integer.MAX_VALUE, -1, -2, 100, 500, 501, 10000, 10001, 1000, 1001, 110};
        return edges[dice % edges.length];
    }

    /** More sales than 512 calls can bring. */
    private static void sellOften(AuditoriumKeys x) {
        x.setOpening(0);
        for (int turn = 0; turn < 600; turn++) {
            int buyer = turn % 2;
            if (turn > 0) {
                x.offer(1 - buyer, 0, 1);
            }
            x.join(buyer);
            x.pass(1);
            x.pay(buyer, x.hold(buyer, 0, 0, 1, AuditoriumKeys.NONE));
        }
    }

    private static void tryOut(Method method, AuditoriumKeys x, Object[] given) throws ReflectiveOperationException {
        try {
            method.invoke(x, given);
        } catch (InvocationTargetException e) {
            Class<?> thrown = e.getCause().getClass();
            if (!Arrays.asList(method.getExceptionTypes()).contains(thrown)) {
                fault(method.getName() + Arrays.toString(given) + " threw " + e.getCause());
            }
        }
    }
}
