import java.lang.reflect.Array;
import java.lang.reflect.Constructor;
import java.lang.reflect.Field;
import java.lang.reflect.Member;
import java.lang.reflect.Method;
import java.lang.reflect.Modifier;
import java.nio.file.Files;
import java.nio.file.Path;
import java.util.ArrayDeque;
import java.util.ArrayList;
import java.util.Arrays;
import java.util.Collections;
import java.util.Deque;
import java.util.IdentityHashMap;
import java.util.List;
import java.util.Set;
import java.util.TreeSet;
import java.util.regex.Matcher;
import java.util.regex.Pattern;

/** What of LANGUAGE.md and of the public face can be seen in the source, in the class and in an object. */
public final class LanguageTest {
    private static final String[] FACE = {
        "int feed(int,int,int,int,int)", "int end(int)", "int text(int,int)", "int fault(int)", "int hill(int,int)",
        "int deed(int,int,int)", "int stop(int,int)", "int state(int,int,int,int)", "int line(int,int,int)",
        "int said(int,int,int,int)", "long odds(int,int,int,int,boolean)", "long sure(int,int,int,boolean)",
        "int reading(int,int,int,int)", "int slips(int,int,int,int)", "long asked(int,int,boolean)", "int soonest(int)",
        "int sentences(int,int)", "int twice(int)", "int ghost(int,boolean)", "int fact(int,int,int)", "int forged(int,int)",
        "long chance(int,int,int,boolean)", "int drawn(int,int,int,int)", "int next(int,int,int,int)",
        "int echo(int,int,int,boolean)", "int alike(int,int,int,boolean)", "int tree(int,int)", "int chain(int,int)",
        "int after(int,int,int)", "int age(int,boolean)", "long waits(int,int,boolean)", "int count(int)", "boolean image(int)",
        "boolean again(int)"};

    private static final String[] FORBIDDEN = {"\\bthrow\\b", "\\btry\\b", "\\bcatch\\b", "\\bsynchronized\\b", "\\bassert\\b",
        "->", "::", "Exact\\(", "\\bMath\\.(random|pow|sqrt)\\b", "\\bThread\\b", "\\bObjects?\\b", "\\bvar\\b", "\\bpackage\\b",
        "System\\.(?!arraycopy)", "\\bthis\\.getClass\\b", "@\\w+", "static \\{", "\\bdouble\\b", "\\bfloat\\b"};

    private static int wrong;

    private LanguageTest() {
    }

    public static void main(String[] args) throws Exception {
        String source = Files.readString(Path.of(args.length > 0 ? args[0] : "src/main/java/FrostReplies.java"));
        face();
        classes();
        words(source);
        methodLengths(source);
        room();
        if (wrong > 0) {
            System.exit(1);
        }
        System.out.println("LanguageTest: the rules that can be seen are kept");
    }

    private static void need(boolean kept, String what) {
        if (!kept) {
            wrong++;
            System.out.println("not kept: " + what);
        }
    }

    private static void face() throws Exception {
        Set<String> due = new TreeSet<>(Arrays.asList(FACE));
        Set<String> got = new TreeSet<>();
        for (Method m : FrostReplies.class.getDeclaredMethods()) {
            if (!Modifier.isPrivate(m.getModifiers()) && !m.isSynthetic()) {
                List<String> types = new ArrayList<>();
                for (Class<?> type : m.getParameterTypes()) {
                    types.add(type.getName());
                }
                got.add(m.getReturnType().getName() + " " + m.getName() + "(" + String.join(",", types) + ")");
                need(Modifier.isPublic(m.getModifiers()), m.getName() + " is public");
            }
        }
        need(due.equals(got), "the methods are " + due + ", not " + got);
        for (Field f : FrostReplies.class.getDeclaredFields()) {
            need(Modifier.isPrivate(f.getModifiers()) || f.getName().equals("NONE"), f.getName() + " is private");
        }
        Field none = FrostReplies.class.getField("NONE");
        need(Modifier.isStatic(none.getModifiers()) && Modifier.isFinal(none.getModifiers()) && none.getInt(null) == -1, "NONE");
        Constructor<?>[] constructors = FrostReplies.class.getDeclaredConstructors();
        need(constructors.length == 1 && Modifier.isPublic(constructors[0].getModifiers()), "one public constructor");
        need(Modifier.isFinal(FrostReplies.class.getModifiers()), "the class is final");
    }

    private static void classes() {
        Class<?>[] inside = FrostReplies.class.getDeclaredClasses();
        need(inside.length < 12, "twelve classes at most");
        Set<String> names = new TreeSet<>();
        for (Method m : FrostReplies.class.getMethods()) {
            names.add(m.getDeclaringClass() == FrostReplies.class ? m.getName() : "");
        }
        List<Class<?>> all = new ArrayList<>(Arrays.asList(inside));
        all.add(FrostReplies.class);
        for (Class<?> one : all) {
            need(one == FrostReplies.class || Modifier.isStatic(one.getModifiers()), one + " is static");
            int fields = 0;
            for (Field f : one.getDeclaredFields()) {
                boolean constant = Modifier.isStatic(f.getModifiers());
                fields += constant ? 0 : 1;
                need(!constant || Modifier.isFinal(f.getModifiers()), f + " is final");
            }
            need(fields <= 20, one + " has twenty fields at most");
            for (Method m : one.getDeclaredMethods()) {
                need(m.getParameterCount() <= 7, m + " has seven parameters at most");
                need(isFace(m) || !names.contains(m.getName()), m + " bears no public name");
            }
        }
    }

    private static boolean isFace(Member m) {
        return m.getDeclaringClass() == FrostReplies.class && Modifier.isPublic(m.getModifiers());
    }

    private static void words(String source) {
        for (String word : FORBIDDEN) {
            Matcher m = Pattern.compile(word).matcher(source);
            need(!m.find(), "no " + word);
        }
        for (int i = 0; i < source.length(); i++) {
            need(source.charAt(i) < 127, "a sign above 126 at " + i);
        }
        Matcher imports = Pattern.compile("import ([^;]*);").matcher(source);
        while (imports.find()) {
            need(List.of("java.util.Arrays", "java.util.ArrayList", "java.util.List").contains(imports.group(1)), imports.group());
        }
        Matcher loops = Pattern.compile("while \\(true\\)|for \\(;;").matcher(source);
        need(!loops.find(), "every loop has an end");
    }

    private static void methodLengths(String source) {
        String[] lines = source.split("\n");
        for (int i = 0; i < lines.length; i++) {
            Matcher m = Pattern.compile("^( {4}| {8})(?!.*\\bclass\\b)\\S.*\\) \\{$").matcher(lines[i]);
            if (m.find()) {
                int end = i;
                while (end < lines.length && !lines[end].equals(m.group(1) + "}")) {
                    end++;
                }
                need(end - i < 60, "line " + (i + 1) + ": a method of " + (end - i) + " lines");
            }
        }
    }

    /** All that an object can come to hold: a run of 512 calls may make 512 of them. */
    private static void room() throws Exception {
        FrostReplies x = new FrostReplies();
        long[] fresh = held(x);
        for (int k = 0; k < 3; k++) {
            x.image(k);
        }
        long[] full = held(x);
        need(fresh[0] * 512 < 600000 && fresh[1] * 512 < 7300000, "512 new objects hold " + fresh[0] * 512 + ", " + fresh[1] * 512);
        need(full[0] * 128 < 600000 && full[1] * 128 < 7300000, "128 full objects hold " + full[0] * 128 + ", " + full[1] * 128);
        x = new FrostReplies();
        for (int k = 0; k < 500; k++) {
            x.image(k % 3);
        }
        need(held(x)[1] == full[1], "images are made once");
    }

    private static long[] held(Object root) throws Exception {
        Set<Object> seen = Collections.newSetFromMap(new IdentityHashMap<>());
        Deque<Object> open = new ArrayDeque<>();
        open.add(root);
        long elements = 0;
        while (!open.isEmpty()) {
            Object one = open.remove();
            if (!seen.add(one)) {
                continue;
            }
            if (one.getClass().isArray()) {
                elements += Array.getLength(one);
                for (int i = 0; one instanceof Object[] && i < Array.getLength(one); i++) {
                    addTo(open, Array.get(one, i));
                }
                continue;
            }
            for (Field f : one.getClass().getDeclaredFields()) {
                if (!Modifier.isStatic(f.getModifiers())) {
                    elements++;
                    f.setAccessible(true);
                    addTo(open, f.getType().isPrimitive() ? null : f.get(one));
                }
            }
        }
        return new long[] {seen.size(), elements};
    }

    private static void addTo(Deque<Object> open, Object one) {
        if (one != null) {
            open.add(one);
        }
    }
}
