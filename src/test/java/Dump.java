import java.util.NoSuchElementException;

/** All that an object tells, as one text; at last what can be undone and what the images keep, so it is used up then. */
final class Dump {
    private static final int NONE = -1;

    private final TreePeers x;
    private final StringBuilder text = new StringBuilder();

    private Dump(TreePeers x) {
        this.x = x;
    }

    static String of(TreePeers x) {
        Dump d = new Dump(x);
        d.latest();
        d.state();
        d.past();
        return d.text.toString();
    }

    /** What is so, without what can be undone and what is kept. */
    static String stateOf(TreePeers x) {
        Dump d = new Dump(x);
        d.state();
        return d.text.toString();
    }

    private void add(String what, int... numbers) {
        text.append(what);
        for (int n : numbers) {
            text.append(' ').append(n);
        }
        text.append('\n');
    }

    private void latest() {
        add("fault", x.fault(), x.faultLine(), x.count(5));
        add("told", x.told(0), x.told(1), x.told(2), x.told(3));
        add("refused", x.refused(1), x.refused(2), x.refused(3));
        for (int i = 0, k = 0; k != NONE; i++) {
            k = x.offerAt(i);
            add("offer", k);
        }
        for (int i = 0, b = 0; b != NONE; i++) {
            b = x.byteAt(i);
            add("byte", b);
        }
    }

    private void state() {
        add("count", x.count(0), x.count(1), x.count(2), x.count(3), x.count(4));
        add("now", x.now(0), x.now(1), x.now(2), x.now(3), x.now(4));
        for (int k = 0; k < x.count(0); k++) {
            add("key", x.key(k, 0), x.key(k, 1), x.key(k, 2), x.digest(k));
        }
        for (int p = 0; p < x.count(1); p++) {
            add("peer", x.peer(p, 1), x.peer(p, 3), x.peer(p, 4), x.peer(p, 5), x.peer(p, 6), x.root(p));
            for (int k = 0; k < x.count(0); k++) {
                entry(p, k);
            }
            for (int i = 0; i < x.peer(p, 2); i++) {
                add("node", x.node(p, i, 0), x.node(p, i, 1), x.node(p, i, 2), x.node(p, i, 3), x.node(p, i, 4), x.node(p, i, 5), x.node(p, i, 6));
            }
        }
        for (int i = -1; i < x.said(NONE); i++) {
            add("said", x.said(i));
        }
    }

    private void entry(int p, int k) {
        try {
            add("entry", x.entry(p, k, 0), x.entry(p, k, 1));
        } catch (NoSuchElementException e) {
            add("no entry");
        }
    }

    private void past() {
        int left;
        do {
            left = x.undo();
            add("undo", left);
            small();
        } while (left > 0);
        for (int k = 0; k < 2; k++) {
            add("restore", x.restore(k) ? 1 : 0);
            small();
        }
    }

    private void small() {
        add("now", x.now(0), x.now(1), x.now(2), x.said(NONE), x.count(0));
        for (int p = 0; p < x.count(1); p++) {
            add("root", x.root(p), x.peer(p, 4));
        }
    }
}
