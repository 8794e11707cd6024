import java.lang.reflect.Constructor;
import java.lang.reflect.Field;
import java.lang.reflect.Member;
import java.lang.reflect.Method;
import java.lang.reflect.Modifier;
import java.util.ArrayList;
import java.util.List;
import java.util.TreeSet;

/** The class shows the document's face and no more, and no call throws, whatever it is given. */
public final class FaceTest {
    private static final String[] FACE = {
        "int DONE", "int REFUSED", "int FULL", "int GONE", "int ABSENT", "int RESIDENT", "int DOUBLE", "int STUB",
        "int LOST", "long NONE", "long NO_ROOM", "long NO_FILE", "TierStore(int, int)", "int create(int, int)",
        "int write(int, int, int)", "long read(int, int)", "int remove(int)", "int backUp()", "int tidy(int, int)",
        "int ask(int)", "int serve()", "int empty(int)", "int lose(int)", "int file(int, int)",
        "int cartridge(int, int)", "int count(int)"};
    private static final int[] NUMBERS = {Integer.MIN_VALUE, -1000, -2, -1, 0, 1, 2, 3, 4, 5, 6, 15, 16, 24, 25,
        Integer.MAX_VALUE};

    private static final Check CHECK = new Check();

    public static void main(String[] args) throws ReflectiveOperationException {
        faceIsTheDocuments();
        privateNamesAreNotPublicOnes();
        noCallThrows();
        CHECK.end();
    }

    private static String joined(Class<?>[] types) {
        List<String> names = new ArrayList<>();
        for (Class<?> type : types) {
            names.add(type.getName());
        }
        return "(" + String.join(", ", names) + ")";
    }

    private static boolean isShown(Member member) {
        return !Modifier.isPrivate(member.getModifiers()) && !member.isSynthetic();
    }

    private static void faceIsTheDocuments() {
        CHECK.topic("face");
        Class<?> type = TierStore.class;
        TreeSet<String> shown = new TreeSet<>();
        for (Field field : type.getDeclaredFields()) {
            if (isShown(field)) {
                shown.add(field.getType() + " " + field.getName());
                int constant = Modifier.PUBLIC | Modifier.STATIC | Modifier.FINAL;
                CHECK.due("modifiers of " + field.getName(), field.getModifiers(), constant);
            }
        }
        for (Constructor<?> constructor : type.getDeclaredConstructors()) {
            if (isShown(constructor)) {
                shown.add(constructor.getName() + joined(constructor.getParameterTypes()));
                CHECK.due("modifiers of the constructor", constructor.getModifiers(), Modifier.PUBLIC);
            }
        }
        for (Method method : type.getDeclaredMethods()) {
            if (isShown(method)) {
                shown.add(method.getReturnType() + " " + method.getName() + joined(method.getParameterTypes()));
                CHECK.due("modifiers of " + method.getName(), method.getModifiers(), Modifier.PUBLIC);
            }
        }
        TreeSet<String> wanted = new TreeSet<>(List.of(FACE));
        CHECK.holds("shown are " + shown, shown.equals(wanted));
        CHECK.due("modifiers of the class", type.getModifiers(), Modifier.PUBLIC | Modifier.FINAL);
    }

    private static void privateNamesAreNotPublicOnes() {
        CHECK.topic("names");
        TreeSet<String> publicNames = new TreeSet<>();
        List<Method> others = new ArrayList<>();
        for (Method method : TierStore.class.getDeclaredMethods()) {
            if (isShown(method)) {
                publicNames.add(method.getName());
            } else {
                others.add(method);
            }
        }
        for (Class<?> inside : TierStore.class.getDeclaredClasses()) {
            others.addAll(List.of(inside.getDeclaredMethods()));
        }
        for (Method method : others) {
            CHECK.holds(method.getName() + " is no public name", !publicNames.contains(method.getName()));
        }
    }

    private static TierStore storeInUse(int seed) {
        TierStore x = new TierStore(seed, seed * 7);
        for (int step = 0; step < 40 * seed; step++) {
            int number = (step * 31 + seed * 17) % 16;
            x.create(number, 1 + step % 4);
            x.write((number * 5) % 16, step % 4, step);
            x.backUp();
            x.ask((number * 3) % 16);
        }
        return x;
    }

    /** More calls than 512 are made on one object too: their answers are free, but they must end. */
    private static void noCallThrows() throws ReflectiveOperationException {
        CHECK.topic("no call throws");
        for (int seed = 0; seed < 6; seed++) {
            TierStore x = storeInUse(seed);
            for (Method method : TierStore.class.getDeclaredMethods()) {
                if (isShown(method)) {
                    callWithAll(x, method, new Object[method.getParameterCount()], 0);
                }
            }
        }
    }

    private static void callWithAll(TierStore x, Method method, Object[] given, int set)
            throws ReflectiveOperationException {
        if (set == given.length) {
            CHECK.holds(method.getName() + " answers", method.invoke(x, given) != null);
            return;
        }
        for (int number : NUMBERS) {
            given[set] = number;
            callWithAll(x, method, given, set + 1);
        }
    }
}
