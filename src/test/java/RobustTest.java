import java.lang.reflect.Method;
import java.lang.reflect.Modifier;
import java.util.ArrayList;
import java.util.Arrays;
import java.util.Comparator;
import java.util.List;
import java.util.Random;

/** Any calls with any arguments in any state: none may throw, and the same calls give the same answers. */
public final class RobustTest {
    private static final int RUNS = 800;
    private static final int CALLS = 512;

    private static final int[] EDGES = {Integer.MIN_VALUE, Integer.MIN_VALUE + 1, -101, -2, -1, 0, 1, 2, 3, 4, 5, 6, 7, 9, 10,
        11, 12, 13, 15, 19, 20, 39, 40, 41, 45, 46, 50, 53, 60, 61, 63, 99, 100, 111, 112, 147, 148, 159, 160, 200, 247, 248,
        599, 600, 601, 7299, 7300, Integer.MAX_VALUE - 1, Integer.MAX_VALUE};

    private static final String[] TEXTS = {
        "word a 1;word ab 2;word abc 0;word b 9;word bc 9;stones 4;asks 0 0;asks 0 2;asks 5 1;asks 5 4;",
        "word aa 1;word aaa 2;follows 0 0;follows 1 1;stones 1;",
        "word abcdef 99;word abcdee 99;word fedcba 99;word f 99;word e 1;word d 1;word c 1;word b 1;word a 1;word aa 1;",
        "frost 0 a;moss 0;forge 0 b;frost 1 a;frost 1 b;moss 1;split 1;chip 0;frost 0 b;moss 0;frost 0 b;",
        "forge 0 a;forge 0 a;forge 0 a;forge 0 a;forge 0 a;forge 0 a;forge 0 a;forge 0 a;forge 0 a;forge 0 a;forge 0 a;forge 0 a;",
        "line abababababab;line a;line b;line fedcba;line abc;line aaaaaaaaaaaa;",
        "depth 0 0;depth 11 9;depth 5 5;depth 5 4;depth 3 3;depth 2 9;depth 1 1;depth 10 0;",
        ""};

    private RobustTest() {
    }

    public static void main(String[] args) throws ReflectiveOperationException {
        List<Method> methods = new ArrayList<>();
        for (Method m : FrostReplies.class.getDeclaredMethods()) {
            if (Modifier.isPublic(m.getModifiers())) {
                methods.add(m);
            }
        }
        // Reflection tells them in no order of its own.
        methods.sort(Comparator.comparing(Method::getName));
        for (int seed = 0; seed < RUNS; seed++) {
            if (!run(seed, methods).equals(run(seed, methods))) {
                System.out.println("run " + seed + " answered otherwise the second time");
                System.exit(1);
            }
        }
        System.out.println("RobustTest: " + RUNS + " runs twice, nothing thrown");
    }

    private static List<Object> run(long seed, List<Method> methods) throws ReflectiveOperationException {
        Random random = new Random(seed);
        FrostReplies x = new FrostReplies();
        List<Object> answers = new ArrayList<>();
        for (int i = 0; i < CALLS; i++) {
            if (random.nextInt(12) == 0 && i < CALLS - 40) {
                String text = TEXTS[random.nextInt(TEXTS.length)];
                text = random.nextInt(4) == 0 ? text.substring(random.nextInt(text.length() + 1)) : text;
                Say.tape(x, text);
                answers.add(x.text(random.nextInt(4), random.nextInt(3) - 1));
                // the calls that brought it to the tape, so that there are 512 in all
                i += text.length() / 20 + 3;
                continue;
            }
            Method method = methods.get(random.nextInt(methods.size()));
            Object[] arguments = new Object[method.getParameterCount()];
            for (int k = 0; k < arguments.length; k++) {
                boolean truth = random.nextBoolean();
                int number = random.nextInt(3) > 0 ? random.nextInt(3) : EDGES[random.nextInt(EDGES.length)];
                arguments[k] = method.getParameterTypes()[k] == boolean.class ? (Object) truth : (Object) number;
            }
            try {
                answers.add(method.invoke(x, arguments));
            } catch (java.lang.reflect.InvocationTargetException e) {
                System.out.println("run " + seed + ": " + method.getName() + Arrays.toString(arguments) + " threw " + e.getCause());
                System.exit(1);
            }
        }
        return answers;
    }
}
