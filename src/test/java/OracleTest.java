import java.lang.reflect.InvocationTargetException;
import java.lang.reflect.Method;
import java.nio.charset.StandardCharsets;
import java.util.ArrayList;
import java.util.List;
import java.util.NoSuchElementException;
import java.util.Random;
import java.util.TreeMap;

/** Runs of some 450 to 512 calls by seeds, each answer compared with the one of the slow telling of the document. */
public final class OracleTest {
    private static final int RUNS = 900;
    /** A step asks some fifty times at the most, and behind the 512th call nothing is promised. */
    private static final int CALLS = 450;
    private static final String THROWN = "throws.NoSuchElementException";

    private final Random random;
    private final Texts texts;
    private final TreePeers program = new TreePeers();
    private final Oracle oracle = new Oracle();
    private final List<String> log = new ArrayList<>();
    private final TreeMap<String, Integer> kinds;
    private int calls;

    private OracleTest(long seed, TreeMap<String, Integer> kinds) {
        random = new Random(seed);
        texts = new Texts(random);
        this.kinds = kinds;
    }

    public static void main(String[] args) throws ReflectiveOperationException {
        TreeMap<String, Integer> kinds = new TreeMap<>();
        int runs = args.length > 0 ? Integer.parseInt(args[0]) : RUNS;
        long first = args.length > 1 ? Long.parseLong(args[1]) : 1;
        for (long seed = first; seed < first + runs; seed++) {
            OracleTest run = new OracleTest(seed, kinds);
            if (!run.go()) {
                System.out.println("seed " + seed + ": the answers part");
                run.log.stream().skip(Math.max(0, run.log.size() - 40)).forEach(System.out::println);
                System.exit(1);
            }
        }
        for (Method m : TreePeers.class.getDeclaredMethods()) {
            if (java.lang.reflect.Modifier.isPublic(m.getModifiers()) && !kinds.containsKey(m.getName())) {
                System.out.println(m.getName() + " was never called");
                System.exit(1);
            }
        }
        if (args.length > 0) {
            System.out.println(kinds);
        }
    }

    private static Object ask(Object o, String name, int... args) throws ReflectiveOperationException {
        Class<?>[] types = new Class<?>[args.length];
        Object[] boxed = new Object[args.length];
        for (int i = 0; i < args.length; i++) {
            types[i] = int.class;
            boxed[i] = args[i];
        }
        Method m = o.getClass().getDeclaredMethod(name, types);
        try {
            return m.invoke(o, boxed);
        } catch (InvocationTargetException e) {
            if (e.getCause() instanceof NoSuchElementException) {
                return THROWN;
            }
            return "machine: " + e.getCause();
        }
    }

    private boolean same(String name, int... args) throws ReflectiveOperationException {
        calls++;
        Object got = ask(program, name, args);
        Object due = ask(oracle, name, args);
        log.add(name + java.util.Arrays.toString(args) + " answered " + got + (got.equals(due) ? "" : ", due is " + due));
        kinds.merge(name, 1, Integer::sum);
        return got.equals(due);
    }

    private boolean go() throws ReflectiveOperationException {
        boolean good = random.nextInt(20) == 0 || read(texts.cluster(95), "cluster");
        while (good && calls < CALLS) {
            good = step();
        }
        return good;
    }

    private boolean read(String text, String method, int... args) throws ReflectiveOperationException {
        byte[] bytes = text.getBytes(StandardCharsets.ISO_8859_1);
        byte[] whole = java.util.Arrays.copyOf(bytes, (bytes.length + 19) / 20 * 20);
        java.nio.ByteBuffer b = java.nio.ByteBuffer.wrap(whole);
        log.add("text: " + text);
        boolean good = true;
        while (good && b.hasRemaining()) {
            good = same("feed", b.getInt(), b.getInt(), b.getInt(), b.getInt(), b.getInt());
        }
        int length = (int) ask(oracle, "count", 5);
        int wanted = random.nextInt(60) == 0 ? length : bytes.length;
        good = good && same("end", wanted) && same(method, args);
        good = good && same("fault") && same("faultLine") && same("count", 5);
        if (good && method.equals("book")) {
            good = same("told", 0) && same("told", 1) && same("told", 2) && same("told", 3);
        }
        return good;
    }

    /** Mostly a number that there is, now and then one beside or far from it. */
    private int near(int count) {
        int r = random.nextInt(40);
        if (r == 0) {
            return new int[] {-1, count, -2, Integer.MIN_VALUE, Integer.MAX_VALUE, 24, 4}[random.nextInt(7)];
        }
        return count <= 0 ? random.nextInt(3) - 1 : random.nextInt(count);
    }

    private int k() {
        return near(texts.keys.size());
    }

    private int p() {
        return near(texts.peers.size());
    }

    private int value() {
        int r = random.nextInt(30);
        return r == 0 ? new int[] {-1, 999, 1000, Integer.MIN_VALUE}[random.nextInt(4)] : random.nextInt(r < 20 ? 4 : 1000);
    }

    private boolean step() throws ReflectiveOperationException {
        switch (random.nextInt(44)) {
            case 0:
            case 1:
            case 2:
            case 3:
                return same("put", p(), k(), value());
            case 4:
            case 5:
                return same("drop", p(), k());
            case 6:
            case 7:
            case 8:
                return same("pull", p(), p());
            case 9:
                return same("cut", p(), p());
            case 10:
            case 11:
                return same("heal", p(), p());
            case 12:
            case 13:
                return same("undo");
            case 14:
                return random.nextInt(3) > 0 || same("drawn", near(25), random.nextInt()) && same("refused", near(4));
            case 15:
                return random.nextInt(6) > 0 || same("odds", near(8), random.nextInt(1000) - 500);
            case 16:
                return random.nextInt(3) > 0 || same("image", near(2));
            case 17:
                return random.nextInt(6) > 0 || same("restore", near(2));
            case 18:
                return random.nextInt(3) > 0 || read(texts.cluster(40), "cluster");
            case 19:
                return random.nextInt(3) > 0 || read(texts.book(), "book", random.nextInt(20) == 0 ? 2 : random.nextInt(2));
            case 20:
                return random.nextInt(2) > 0 || read(texts.sentence(), "sentence");
            case 21:
                return random.nextInt(20) > 0 || same("feed", random.nextInt(), 0, -1, 7, random.nextInt());
            default:
                return look();
        }
    }

    private boolean look() throws ReflectiveOperationException {
        switch (random.nextInt(24)) {
            case 0:
                return same("key", k(), near(3));
            case 1:
                return same("digest", k());
            case 2:
            case 3:
                return same("peer", p(), near(7));
            case 4:
                return same("root", p());
            case 5:
                return same("entry", p(), k(), near(3));
            case 6:
            case 7:
                return same("node", p(), near(6), near(7));
            case 8:
            case 9:
                return same("now", near(5));
            case 10:
                return same("visits", p(), p());
            case 11:
                return same("differs", p(), p());
            case 12:
                return same("offers", p(), p()) && same("offerAt", 0) && same("offerAt", near(5));
            case 13:
                return same("fresh", p(), k(), value());
            case 14:
                return same("pulls", p(), p());
            case 15:
                return same("path", p(), k());
            case 16:
                return same("mean", p(), near(2));
            case 17:
                return same("part", p(), p(), near(2));
            case 18:
                return same("tag", p()) && same("byteAt", near(26));
            case 19:
                return same("said", -1) && same("said", near(4));
            case 20:
                return same("refused", near(4)) && same("told", near(4));
            case 21:
                return same("fault") && same("faultLine");
            case 22:
                return same("count", near(6));
            default:
                return same("offerAt", near(4)) && same("byteAt", near(26)) && same("end", near(20));
        }
    }
}
