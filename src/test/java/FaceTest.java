import java.lang.reflect.Field;
import java.lang.reflect.InvocationTargetException;
import java.lang.reflect.Method;
import java.lang.reflect.Modifier;
import java.util.Arrays;
import java.util.Set;
import java.util.TreeSet;

/** The public face is the document's and no more, and no call with whatever numbers throws. */
public final class FaceTest {
    private static final Due DUE = new Due();
    private static final String[] FACE = {
        "int feed 1", "int row 0", "int set 2", "int step 1", "int swap 2", "int next 0", "int round 0",
        "int left 1", "int place 1", "int when 1", "int behind 2", "int rounds 0", "int stays 1",
        "int goes 1", "int beside 1", "int gap 1", "int near 1", "int friends 0", "int byOther 1",
        "int endless 2", "int endlessWhen 2", "int powers 2", "long throwsBy 2", "int tell 1",
        "int judge 0", "int find 0", "int seen 1", "int clear 0", "int seeds 2", "int image 0",
        "int restore 0", "int count 1"
    };
    private static final int[] NUMBERS = {
        Integer.MIN_VALUE, -1001, -1, 0, 1, 2, 3, 6, 7, 12, 20, 24, 40, 48, 60, 120, 121, 200, 255, 1500,
        Integer.MAX_VALUE - 1, Integer.MAX_VALUE
    };

    private FaceTest() {
    }

    public static void main(String[] args) throws Exception {
        face();
        for (String row : new String[] {"n1;", "n20;s12;", "n120;s42;t9;t8;t7;t6;t5;t4;t3;t2;", "n40;s52;", "n1;s52;"}) {
            EachSecondStruck x = Due.by(row);
            for (int i = 0; i < 3; i++) {
                everyCall(x);
            }
        }
        DUE.end();
    }

    private static void face() {
        Class<?> program = EachSecondStruck.class;
        DUE.is("final", Modifier.isFinal(program.getModifiers()) ? 1 : 0, 1);
        DUE.is("constructors", program.getDeclaredConstructors().length, 1);
        DUE.is("the constructor's parameters", program.getConstructors()[0].getParameterCount(), 0);
        Set<String> methods = new TreeSet<>();
        Set<String> publicNames = new TreeSet<>();
        for (Method method : program.getDeclaredMethods()) {
            if (!Modifier.isPrivate(method.getModifiers())) {
                methods.add(method.getReturnType() + " " + method.getName() + " " + method.getParameterCount());
                publicNames.add(method.getName());
                DUE.is(method + " is public", Modifier.isPublic(method.getModifiers()) ? 1 : 0, 1);
            }
        }
        DUE.is("the face's methods", methods.equals(new TreeSet<>(Arrays.asList(FACE))) ? 1 : 0, 1);
        for (Field field : program.getDeclaredFields()) {
            DUE.is(field + " is private", Modifier.isPrivate(field.getModifiers()) ? 1 : 0, 1);
        }
        for (Class<?> inside : program.getDeclaredClasses()) {
            DUE.is(inside + " is static", Modifier.isStatic(inside.getModifiers()) ? 1 : 0, 1);
            for (Method method : inside.getDeclaredMethods()) {
                DUE.is(method + " bears a public name", publicNames.contains(method.getName()) ? 1 : 0, 0);
            }
        }
    }

    private static void everyCall(EachSecondStruck x) throws Exception {
        for (Method method : EachSecondStruck.class.getMethods()) {
            if (method.getDeclaringClass() != EachSecondStruck.class) {
                continue;
            }
            for (int one : NUMBERS) {
                for (int other : NUMBERS) {
                    Object[] all = {one, other};
                    call(x, method, Arrays.copyOf(all, method.getParameterCount()));
                }
            }
        }
    }

    private static void call(EachSecondStruck x, Method method, Object[] numbers) throws Exception {
        try {
            method.invoke(x, numbers);
        } catch (InvocationTargetException thrown) {
            DUE.is(method.getName() + Arrays.toString(numbers) + " threw " + thrown.getCause(), 1, 0);
        }
    }
}
