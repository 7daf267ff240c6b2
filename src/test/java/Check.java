import java.lang.reflect.InvocationTargetException;
import java.lang.reflect.Method;
import java.lang.reflect.Modifier;
import java.nio.ByteBuffer;
import java.nio.charset.StandardCharsets;
import java.util.Arrays;
import java.util.Comparator;
import java.util.NoSuchElementException;

/** What the tests share: feeding a text, comparing, and telling what was not as due. */
final class Check {
    private static int wrong = 0;

    private Check() {
    }

    interface Call {
        int answer();
    }

    interface Maker {
        TreePeers make();
    }

    interface Deed {
        void to(TreePeers x);
    }

    static void is(String what, long got, long due) {
        if (got != due) {
            wrong++;
            System.out.println(what + " answered " + got + ", due is " + due);
        }
    }

    static void is(String what, boolean got, boolean due) {
        is(what, got ? 1 : 0, due ? 1 : 0);
    }

    static void noSuch(String what, Call call) {
        try {
            int got = call.answer();
            wrong++;
            System.out.println(what + " answered " + got + ", due is a NoSuchElementException");
        } catch (NoSuchElementException e) {
            return;
        }
    }

    /** The text comes behind what the tape has. */
    static void feed(TreePeers x, String text) {
        byte[] bytes = text.getBytes(StandardCharsets.ISO_8859_1);
        ByteBuffer b = ByteBuffer.wrap(Arrays.copyOf(bytes, (bytes.length + 19) / 20 * 20));
        int before = x.count(5);
        while (b.hasRemaining()) {
            x.feed(b.getInt(), b.getInt(), b.getInt(), b.getInt(), b.getInt());
        }
        is("end() behind a text", x.end(before + bytes.length), true);
    }

    static int cluster(TreePeers x, String text) {
        feed(x, text);
        return x.cluster();
    }

    static int book(TreePeers x, int lives, String text) {
        feed(x, text);
        return x.book(lives);
    }

    static int sentence(TreePeers x, String text) {
        feed(x, text);
        return x.sentence();
    }

    static TreePeers of(String text) {
        TreePeers x = new TreePeers();
        if (cluster(x, text) < 0) {
            wrong++;
            System.out.println("a good CLUSTER was refused: " + text);
        }
        return x;
    }

    static String tag(TreePeers x, int p) {
        int n = x.tag(p);
        StringBuilder s = new StringBuilder();
        for (int i = 0; i < n; i++) {
            s.append((char) x.byteAt(i));
        }
        return s.toString();
    }

    static void text(String what, String got, String due) {
        if (!got.equals(due)) {
            wrong++;
            System.out.println(what + " was '" + got + "', due is '" + due + "'");
        }
    }

    /** Two objects made alike stay alike, if one is asked something that must change nothing. */
    static void leaves(String what, Maker maker, Deed deed) {
        TreePeers asked = maker.make();
        deed.to(asked);
        text(what + ": all stays", Dump.of(asked), Dump.of(maker.make()));
    }

    /** Runs each static method without parameters of a class of tests but main, by their names; ends with 1 if one fails. */
    static void runEach(Class<?> tests) {
        Method[] methods = tests.getDeclaredMethods();
        Arrays.sort(methods, Comparator.comparing(Method::getName));
        int run = 0;
        for (Method m : methods) {
            if (Modifier.isStatic(m.getModifiers()) && !Modifier.isPrivate(m.getModifiers()) && m.getParameterCount() == 0) {
                int before = wrong;
                runOne(m);
                run++;
                if (wrong > before) {
                    System.out.println("  that is " + tests.getSimpleName() + "." + m.getName());
                }
            }
        }
        is(tests.getSimpleName() + " has tests", run > 0, true);
        end();
    }

    private static void runOne(Method m) {
        try {
            m.invoke(null);
        } catch (InvocationTargetException e) {
            wrong++;
            System.out.println(m.getName() + " was thrown out of: " + e.getCause());
        } catch (IllegalAccessException e) {
            throw new IllegalStateException(e);
        }
    }

    static void end() {
        if (wrong > 0) {
            System.out.println(wrong + " answers are not as due");
            System.exit(1);
        }
    }
}
