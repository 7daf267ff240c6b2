import java.util.NoSuchElementException;
import java.util.Random;

/** What calls make is counted: next to nothing beside the object itself; and no argument makes the machine throw. */
public final class RoomTest {
    private static final int[] ODD = {
        0, 1, 2, 3, 4, 5, 6, 7, 19, 20, 23, 24, 25, 59, 60, 61, 100, 999, 1000, -1, -2, 31, 32, 33, 940, 941,
        Integer.MAX_VALUE, Integer.MIN_VALUE, Integer.MAX_VALUE - 1, 1 << 16, -(1 << 16)};

    private RoomTest() {
    }

    public static void main(String[] args) {
        anyArguments();
        room();
        Check.end();
    }

    private static String cluster(int keys) {
        StringBuilder s = new StringBuilder("bits 1;page 1;peer p;peer q;peer r;peer s;");
        for (int i = 0; i < keys; i++) {
            s.append("key ").append((char) ('a' + i)).append("x;has p ").append((char) ('a' + i)).append("x 1;");
        }
        return s.toString();
    }

    private static void anyArguments() {
        Random random = new Random(3);
        for (int run = 0; run < 200; run++) {
            TreePeers x = run % 4 == 0 ? new TreePeers() : Check.of(cluster(run % 25));
            for (int i = 0; i < 400; i++) {
                int a = ODD[random.nextInt(ODD.length)];
                int b = ODD[random.nextInt(ODD.length)];
                int c = ODD[random.nextInt(ODD.length)];
                try {
                    ask(x, random.nextInt(39), a, b, c);
                } catch (NoSuchElementException e) {
                    continue;
                }
            }
        }
    }

    private static void ask(TreePeers x, int method, int a, int b, int c) {
        switch (method) {
            case 0: x.feed(a, b, c, a, b); break;
            case 1: x.end(a); break;
            case 2: x.cluster(); break;
            case 3: x.fault(); break;
            case 4: x.faultLine(); break;
            case 5: x.key(a, b); break;
            case 6: x.digest(a); break;
            case 7: x.peer(a, b); break;
            case 8: x.root(a); break;
            case 9: x.entry(a, b, c); break;
            case 10: x.node(a, b, c); break;
            case 11: x.now(a); break;
            case 12: x.put(a, b, c); break;
            case 13: x.drop(a, b); break;
            case 14: x.pull(a, b); break;
            case 15: x.cut(a, b); break;
            case 16: x.heal(a, b); break;
            case 17: x.undo(); break;
            case 18: x.visits(a, b); break;
            case 19: x.differs(a, b); break;
            case 20: x.offers(a, b); break;
            case 21: x.offerAt(a); break;
            case 22: x.fresh(a, b, c); break;
            case 23: x.pulls(a, b); break;
            case 24: x.path(a, b); break;
            case 25: x.mean(a, b); break;
            case 26: x.part(a, b, c); break;
            case 27: x.tag(a); break;
            case 28: x.byteAt(a); break;
            case 29: x.drawn(a, b); break;
            case 30: x.refused(a); break;
            case 31: x.odds(a, b); break;
            case 32: x.book(a); break;
            case 33: x.told(a); break;
            case 34: x.sentence(); break;
            case 35: x.said(a); break;
            case 36: x.image(a); break;
            case 37: x.restore(a); break;
            default: x.count(a); break;
        }
    }

    private static long allocated() {
        java.lang.management.ThreadMXBean bean = java.lang.management.ManagementFactory.getThreadMXBean();
        return bean instanceof com.sun.management.ThreadMXBean b ? b.getThreadAllocatedBytes(Thread.currentThread().getId()) : 0;
    }

    private static void room() {
        allocated();
        new TreePeers();
        long before = allocated();
        TreePeers x = new TreePeers();
        long made = allocated() - before;
        Check.is("an object takes less than 64 KiB: " + made, made < 65536, true);
        Check.cluster(x, cluster(24));
        dear(x);
        before = allocated();
        for (int i = 0; i < 50; i++) {
            dear(x);
        }
        made = allocated() - before;
        Check.is("450 dear calls make next to nothing: " + made, made < 65536, true);
    }

    private static void dear(TreePeers x) {
        x.odds(20, 7);
        x.drawn(60, 7);
        x.pulls(0, 1);
        x.fresh(0, 1, 2);
        x.offers(0, 1);
        x.tag(0);
        x.image(0);
        x.restore(0);
        x.undo();
    }
}
