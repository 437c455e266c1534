import java.lang.reflect.Constructor;
import java.lang.reflect.Field;
import java.lang.reflect.InvocationTargetException;
import java.lang.reflect.Member;
import java.lang.reflect.Method;
import java.lang.reflect.Modifier;
import java.util.ArrayList;
import java.util.Arrays;
import java.util.List;
import java.util.Random;
import java.util.TreeSet;

/** The document's section "The public face", and what LANGUAGE.md's rules 1, 2, 5, 6, 7 and 11 say of it. */
public final class FaceTest {
    private static final String ARGUMENT = "IllegalArgumentException";
    private static final String STATE = "IllegalStateException";
    private static final String ELEMENT = "NoSuchElementException";

    private static final String[] METHODS = {
        "int feed(int, long) throws " + ARGUMENT + ", " + STATE,
        "int make(int, int, boolean) throws " + ARGUMENT + ", " + STATE,
        "int find(int, int) throws " + ARGUMENT + ", " + STATE,
        "int write(int, int) throws " + ARGUMENT + ", " + STATE,
        "int cut(int, int) throws " + ARGUMENT + ", " + STATE,
        "long read(int, int) throws " + ARGUMENT + ", " + STATE + ", " + ELEMENT,
        "int move(int, int, int, int) throws " + ARGUMENT + ", " + STATE,
        "int remove(int, int) throws " + ARGUMENT + ", " + STATE,
        "int sync() throws " + STATE,
        "void lose(int) throws " + ARGUMENT,
        "void off() throws " + STATE,
        "boolean open() throws " + STATE,
        "boolean fail(int) throws " + ARGUMENT,
        "boolean replace(int) throws " + ARGUMENT,
        "boolean spoil(int, int, int, int, long) throws " + ARGUMENT,
        "int rebuild() throws " + STATE,
        "int copyBack() throws " + STATE,
        "int scrub() throws " + STATE,
        "int node(int, int) throws " + ARGUMENT + ", " + STATE + ", " + ELEMENT,
        "int place(int, int) throws " + ARGUMENT,
        "int look(int) throws " + ARGUMENT,
    };

    private static final int[] INTS = {
        Integer.MIN_VALUE, -65536, -64, -1, 0, 1, 2, 3, 7, 8, 9, 12, 19, 20, 47, 48, 63, 64, 70, 1024, 65535, 65536,
        Integer.MAX_VALUE - 1, Integer.MAX_VALUE
    };
    private static final long[] LONGS = {Long.MIN_VALUE, -1L, 0L, 1L, 256L, Long.MAX_VALUE};

    private static String told(Class<?>[] types) {
        StringBuilder text = new StringBuilder();
        for (Class<?> type : types) text.append(text.length() > 0 ? ", " : "").append(type.getSimpleName());
        return text.toString();
    }

    private static String told(Method method) {
        return method.getReturnType().getSimpleName() + " " + method.getName() + "(" + told(method.getParameterTypes())
            + ") throws " + told(method.getExceptionTypes());
    }

    private static List<Class<?>> inside() {
        return Arrays.asList(DiskPool.class.getDeclaredClasses());
    }

    private static List<Class<?>> allClasses() {
        List<Class<?>> all = new ArrayList<>(inside());
        all.add(DiskPool.class);
        return all;
    }

    private static boolean isHidden(Member member) {
        return Modifier.isPrivate(member.getModifiers()) || member.isSynthetic();
    }

    private static void theClass() {
        int modifiers = DiskPool.class.getModifiers();
        Due.due("public", true, Modifier.isPublic(modifiers));
        Due.due("final", true, Modifier.isFinal(modifiers));
        Due.due("without a package", true, DiskPool.class.getPackageName().isEmpty());
        Due.due("above it Object alone", true, DiskPool.class.getSuperclass() == Object.class);
        Due.due("no interfaces", 0, () -> DiskPool.class.getInterfaces().length);
    }

    private static void theConstructor() {
        Constructor<?>[] all = DiskPool.class.getDeclaredConstructors();
        Due.due("one", 1, () -> all.length);
        Due.due("public", true, Modifier.isPublic(all[0].getModifiers()));
        Due.due("three ints", true, told(all[0].getParameterTypes()).equals("int, int, int"));
        Due.due("it throws nothing", 0, () -> all[0].getExceptionTypes().length);
    }

    private static void theMethods() {
        TreeSet<String> due = new TreeSet<>(Arrays.asList(METHODS));
        TreeSet<String> found = new TreeSet<>();
        for (Method method : DiskPool.class.getDeclaredMethods()) {
            if (isHidden(method)) continue;
            found.add(told(method));
            Due.due(method.getName() + " is public", true, Modifier.isPublic(method.getModifiers()));
            Due.due(method.getName() + " is no static one", false, Modifier.isStatic(method.getModifiers()));
        }
        for (String text : due) Due.due("there is " + text, true, found.contains(text));
        for (String text : found) Due.due("the document has " + text, true, due.contains(text));
    }

    private static void noOtherMember() {
        for (Field field : DiskPool.class.getDeclaredFields()) {
            Due.due(field.getName() + " is private", true, isHidden(field));
        }
        for (Class<?> own : inside()) {
            int modifiers = own.getModifiers();
            String name = own.getSimpleName();
            Due.due(name + " is not seen", false, Modifier.isPublic(modifiers) || Modifier.isProtected(modifiers));
            Due.due(name + " is static", true, Modifier.isStatic(modifiers));
        }
        TreeSet<String> names = new TreeSet<>();
        for (String text : METHODS) names.add(text.substring(text.indexOf(' ') + 1, text.indexOf('(')));
        for (Class<?> one : allClasses()) {
            for (Method method : one.getDeclaredMethods()) {
                boolean same = Modifier.isPrivate(method.getModifiers()) && names.contains(method.getName());
                Due.due(method.getName() + " bears no public one's name", false, same);
            }
        }
    }

    private static void theForm() {
        Due.due("at most some twelve classes", true, allClasses().size() <= 12);
        for (Class<?> one : allClasses()) {
            int fields = 0;
            for (Field field : one.getDeclaredFields()) {
                boolean isStatic = Modifier.isStatic(field.getModifiers());
                if (isStatic) Due.due(field.getName() + " is final", true, Modifier.isFinal(field.getModifiers()));
                if (!isStatic) fields++;
            }
            Due.due(one.getSimpleName() + ": some twenty fields", true, fields <= 20);
            for (Method method : one.getDeclaredMethods()) {
                Due.due(method.getName() + ": at most seven parameters", true, method.getParameterCount() <= 7);
            }
        }
    }

    private static Object[] arguments(Method method, Random random) {
        Class<?>[] types = method.getParameterTypes();
        Object[] arguments = new Object[types.length];
        for (int i = 0; i < types.length; i++) {
            if (types[i] == long.class) arguments[i] = LONGS[random.nextInt(LONGS.length)];
            else if (types[i] == boolean.class) arguments[i] = random.nextBoolean();
            else arguments[i] = INTS[random.nextInt(INTS.length)];
        }
        return arguments;
    }

    /** What a call throws that its line of the face does not tell; an empty text for nothing. */
    private static String untold(DiskPool pool, Method method, Object[] arguments) {
        try {
            method.invoke(pool, arguments);
            return "";
        } catch (InvocationTargetException e) {
            Class<?> thrown = e.getCause().getClass();
            return Arrays.asList(method.getExceptionTypes()).contains(thrown) ? "" : thrown.getName();
        } catch (IllegalAccessException e) {
            return "no access";
        }
    }

    private static void nothingElseIsThrown() {
        Random random = new Random(22);
        List<Method> methods = new ArrayList<>();
        for (Method method : DiskPool.class.getDeclaredMethods()) if (!isHidden(method)) methods.add(method);
        for (int run = 0; run < 900; run++) {
            DiskPool pool = new DiskPool(INTS[random.nextInt(INTS.length)], random.nextInt(12), random.nextInt(80));
            // At most three calls each time, so no more than 512 in all.
            for (int i = 0; i < 170; i++) {
                // It is opened ever again, so that not most of the calls find it off.
                if (pool.look(0) == 0 && random.nextInt(3) == 0) pool.open();
                Method method = methods.get(random.nextInt(methods.size()));
                Object[] arguments = arguments(method, random);
                String thrown = untold(pool, method, arguments);
                Due.due(method.getName() + Arrays.toString(arguments) + " throws " + thrown, true, thrown.isEmpty());
            }
        }
    }

    public static void main(String[] args) {
        Due.holds("public final class DiskPool", FaceTest::theClass);
        Due.holds("public DiskPool(int disks, int width, int rows)", FaceTest::theConstructor);
        Due.holds("The public face", FaceTest::theMethods);
        Due.holds("no other public, protected or package-visible member", FaceTest::noOtherMember);
        Due.holds("at most seven parameters, some twelve classes, some twenty fields", FaceTest::theForm);
        Due.holds("throws exactly what and where the document says, and nothing else", FaceTest::nothingElseIsThrown);
        Due.end();
    }
}
