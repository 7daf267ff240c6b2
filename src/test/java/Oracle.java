import java.nio.charset.StandardCharsets;
import java.util.ArrayDeque;
import java.util.ArrayList;
import java.util.Arrays;
import java.util.Collections;
import java.util.Deque;
import java.util.HashMap;
import java.util.HashSet;
import java.util.LinkedHashMap;
import java.util.List;
import java.util.Map;
import java.util.NoSuchElementException;
import java.util.Set;
import java.util.TreeMap;
import java.util.function.Predicate;

/** The document told a second time, slowly and by other means (maps by names, objects made at will), to compare with. */
final class Oracle {
    static final int NONE = -1;
    private static final Set<String> RESERVED = new HashSet<>(Arrays.asList(
        "bits", "page", "rule", "late", "most", "least", "key", "peer", "has", "cut",
        "put", "drop", "pull", "heal",
        "or", "and", "not", "torn", "held", "gone", "level", "copies", "stamp", "number"));

    record Entry(int value, int stamp) { }

    record Token(int at, String text) {
        boolean isName() {
            return text.matches("[a-z]{1,7}") && !RESERVED.contains(text);
        }

        boolean isNumber() {
            return text.matches("[0-9]{1,3}");
        }
    }

    static final class Fault extends RuntimeException {
        private static final long serialVersionUID = 1L;
        final int kind;
        final int at;
        final int line;

        Fault(int kind, int at, int line) {
            this.kind = kind;
            this.at = at;
            this.line = line;
        }
    }

    static final class Node {
        int level;
        final List<String> keys = new ArrayList<>();
        final List<Node> below = new ArrayList<>();
        Node above;
        int digest;
    }

    /** Everything that an image keeps; copied whole whenever it might change. */
    static final class World {
        int bits = 2;
        int page = 4;
        String rule = "late";
        List<String> keys = new ArrayList<>();
        List<String> peers = new ArrayList<>();
        Map<String, TreeMap<String, Entry>> has = new LinkedHashMap<>();
        Set<Set<String>> cuts = new HashSet<>();
        Map<String, Integer> came = new HashMap<>();
        int pulls;
        int offers;
        int stamps;
        Predicate<String> sentence;
        int ones;

        World copy() {
            World w = new World();
            w.bits = bits;
            w.page = page;
            w.rule = rule;
            w.keys = new ArrayList<>(keys);
            w.peers = new ArrayList<>(peers);
            has.forEach((p, m) -> w.has.put(p, new TreeMap<>(m)));
            w.cuts = new HashSet<>(cuts);
            w.came = new HashMap<>(came);
            w.pulls = pulls;
            w.offers = offers;
            w.stamps = stamps;
            w.sentence = sentence;
            w.ones = ones;
            return w;
        }
    }

    private World w = new World();
    private byte[] tape = new byte[0];
    private final Deque<World> past = new ArrayDeque<>();
    private final World[] images = new World[2];
    private List<Integer> latestOffers = new ArrayList<>();
    private String latestTag = "";
    private int[] latestRefused;
    private int[] latestTold;
    private int fault;
    private int faultLine = NONE;

    // ---- digests and trees

    static int mix(int x, int y) {
        int m = (int) ((long) (x ^ y) * 16777619L);
        return m ^ (m >>> 15);
    }

    static int digestOf(String name) {
        int x = -2128831035;
        for (byte b : name.getBytes(StandardCharsets.ISO_8859_1)) {
            x = mix(x, b);
        }
        return x;
    }

    private static int levelOf(World w, String key) {
        int d = digestOf(key);
        return (d == 0 ? 32 : Integer.numberOfTrailingZeros(d)) / w.bits;
    }

    private static int digestOf(String key, Entry e) {
        return mix(mix(digestOf(key), e.stamp()), e.value() + 1);
    }

    private static Node grow(World w, TreeMap<String, Entry> entries, Node above) {
        if (entries.isEmpty()) {
            return null;
        }
        Node n = new Node();
        n.above = above;
        n.level = Collections.max(entries.keySet().stream().map(k -> levelOf(w, k)).toList());
        n.digest = n.level + 1;
        TreeMap<String, Entry> gap = new TreeMap<>();
        for (Map.Entry<String, Entry> e : entries.entrySet()) {
            if (levelOf(w, e.getKey()) == n.level) {
                n.digest = mix(n.digest, childDigest(w, gap, n));
                n.digest = mix(n.digest, digestOf(e.getKey(), e.getValue()));
                n.keys.add(e.getKey());
                gap = new TreeMap<>();
            } else {
                gap.put(e.getKey(), e.getValue());
            }
        }
        n.digest = mix(n.digest, childDigest(w, gap, n));
        return n;
    }

    private static int childDigest(World w, TreeMap<String, Entry> gap, Node n) {
        Node child = grow(w, gap, n);
        if (child == null) {
            return 0;
        }
        n.below.add(child);
        return child.digest;
    }

    private static List<Node> nodes(World w, String p) {
        List<Node> all = new ArrayList<>();
        flatten(grow(w, w.has.get(p), null), all);
        return all;
    }

    private static void flatten(Node n, List<Node> all) {
        if (n != null) {
            all.add(n);
            n.below.forEach(b -> flatten(b, all));
        }
    }

    private static int rootOf(World w, String p) {
        List<Node> all = nodes(w, p);
        return all.isEmpty() ? 0 : all.get(0).digest;
    }

    private static List<Node> visited(World w, String p, String against) {
        Set<Integer> there = new HashSet<>();
        nodes(w, against).forEach(n -> there.add(n.digest));
        List<Node> seen = new ArrayList<>();
        for (Node n : nodes(w, p)) {
            if (!there.contains(n.digest) && (n.above == null || seen.contains(n.above))) {
                seen.add(n);
            }
        }
        return seen;
    }

    private static boolean wins(World w, Entry e, Entry f) {
        List<Integer> x;
        List<Integer> y;
        switch (w.rule) {
            case "late":
                x = List.of(e.stamp(), e.value());
                y = List.of(f.stamp(), f.value());
                break;
            case "most":
                x = List.of(e.value(), e.stamp());
                y = List.of(f.value(), f.stamp());
                break;
            default:
                x = List.of(e.value() == -1 ? -5000 : -e.value(), e.stamp());
                y = List.of(f.value() == -1 ? -5000 : -f.value(), f.stamp());
        }
        int c = x.get(0).compareTo(y.get(0));
        return c != 0 ? c > 0 : x.get(1) > y.get(1);
    }

    private static List<String> offersOf(World w, String to, String from) {
        Set<String> open = new HashSet<>();
        visited(w, from, to).forEach(n -> open.addAll(n.keys));
        List<String> offers = new ArrayList<>();
        w.has.get(from).forEach((k, e) -> {
            Entry mine = w.has.get(to).get(k);
            if (open.contains(k) && (mine == null || wins(w, e, mine))) {
                offers.add(k);
            }
        });
        return offers;
    }

    // ---- deeds in a world

    private static int doPut(World w, String p, String k, int value) {
        Entry e = w.has.get(p).get(k);
        if (e != null && e.value() == value) {
            return 1;
        }
        w.has.get(p).put(k, new Entry(value, ++w.stamps));
        return 0;
    }

    private static int doDrop(World w, String p, String k) {
        Entry e = w.has.get(p).get(k);
        if (e == null || e.value() == -1) {
            return 1;
        }
        w.has.get(p).put(k, new Entry(-1, ++w.stamps));
        return 0;
    }

    private static int doPull(World w, String a, String b) {
        if (w.cuts.contains(Set.of(a, b))) {
            return 1;
        }
        if (rootOf(w, a) == rootOf(w, b)) {
            return 2;
        }
        List<String> offers = offersOf(w, a, b);
        if (offers.isEmpty()) {
            return 3;
        }
        List<String> taken = offers.subList(0, Math.min(w.page, offers.size()));
        taken.forEach(k -> w.has.get(a).put(k, w.has.get(b).get(k)));
        w.pulls++;
        w.offers += taken.size();
        w.came.merge(a, taken.size(), Integer::sum);
        return 0;
    }

    private static int doCut(World w, String a, String b) {
        return w.cuts.add(Set.of(a, b)) ? 0 : 1;
    }

    private static int doHeal(World w, String a, String b) {
        return w.cuts.remove(Set.of(a, b)) ? 0 : 1;
    }

    private static int kinds(World w) {
        Set<Integer> roots = new HashSet<>();
        w.peers.forEach(p -> roots.add(rootOf(w, p)));
        return roots.size();
    }

    private static boolean torn(World w, String k) {
        Set<String> kinds = new HashSet<>();
        w.peers.forEach(p -> kinds.add(String.valueOf(w.has.get(p).get(k))));
        return kinds.size() > 1;
    }

    private static long copies(World w, String k) {
        return w.peers.stream().filter(p -> w.has.get(p).containsKey(k)).count();
    }

    private static int stamp(World w, String k) {
        return w.peers.stream().filter(p -> w.has.get(p).containsKey(k)).mapToInt(p -> w.has.get(p).get(k).stamp()).max().orElse(0);
    }

    // ---- texts

    /** All tokens that begin ahead of the most bytes, then one with an empty text at the end's place. */
    private static List<Token> tokens(byte[] bytes, int most) {
        List<Token> all = new ArrayList<>();
        String s = new String(bytes, StandardCharsets.ISO_8859_1);
        int i = 0;
        while (i < s.length() && i < most) {
            char c = s.charAt(i);
            int j = i + 1;
            if (c == ' ' || c == '\n') {
                i++;
                continue;
            }
            if (("" + c).matches("[a-z0-9]")) {
                while (j < s.length() && ("" + s.charAt(j)).matches("[a-z0-9]")) {
                    j++;
                }
            }
            all.add(new Token(i, s.substring(i, j)));
            i = j;
        }
        all.add(new Token(Math.min(s.length(), most), ""));
        return all;
    }

    /** Takes tokens from the front; every refusal is a Fault at the token in front. */
    private final class Parser {
        final List<Token> rest;
        final boolean over;
        int line;

        Parser(int most) {
            rest = new ArrayList<>(tokens(tape, most));
            over = tape.length > most;
        }

        Token front() {
            return rest.get(0);
        }

        boolean atEnd() {
            return rest.size() == 1;
        }

        Fault fault(int kind) {
            return new Fault(kind, front().at(), line);
        }

        Token take() {
            Token t = front();
            if (!atEnd()) {
                rest.remove(0);
            }
            return t;
        }

        void finish() {
            if (!atEnd() || over) {
                throw fault(1);
            }
        }

        void sign(String s) {
            if (!front().text().equals(s)) {
                throw fault(1);
            }
            take();
        }

        int number(int least, int most) {
            if (!front().isNumber()) {
                throw fault(1);
            }
            int n = Integer.parseInt(front().text());
            if (n < least || n > most) {
                throw fault(2);
            }
            take();
            return n;
        }

        String name(Predicate<String> good) {
            if (!front().isName()) {
                throw fault(1);
            }
            if (!good.test(front().text())) {
                throw fault(3);
            }
            return take().text();
        }

        void lineEnd() {
            sign(";");
            line++;
        }
    }

    private World parseCluster(Parser t) {
        World n = new World();
        Set<String> once = new HashSet<>();
        while (!t.atEnd()) {
            String first = t.front().text();
            switch (first) {
                case "bits":
                case "page":
                case "rule":
                    if (once.contains(first) || !n.keys.isEmpty()) {
                        throw t.fault(3);
                    }
                    once.add(t.take().text());
                    if (first.equals("rule")) {
                        if (!List.of("late", "most", "least").contains(t.front().text())) {
                            throw t.fault(1);
                        }
                        n.rule = t.take().text();
                    } else if (first.equals("bits")) {
                        n.bits = t.number(1, 4);
                    } else {
                        n.page = t.number(1, 12);
                    }
                    break;
                case "key":
                    if (n.keys.size() == 24) {
                        throw t.fault(4);
                    }
                    t.take();
                    n.keys.add(t.name(s -> !n.keys.contains(s) && !n.peers.contains(s)));
                    break;
                case "peer":
                    if (n.peers.size() == 4) {
                        throw t.fault(4);
                    }
                    t.take();
                    String p = t.name(s -> !n.keys.contains(s) && !n.peers.contains(s));
                    n.peers.add(p);
                    n.has.put(p, new TreeMap<>());
                    break;
                case "has":
                    t.take();
                    String q = t.name(n.peers::contains);
                    String k = t.name(s -> n.keys.contains(s) && !n.has.get(q).containsKey(s));
                    n.has.get(q).put(k, new Entry(t.number(0, 999), ++n.stamps));
                    break;
                case "cut":
                    t.take();
                    String a = t.name(n.peers::contains);
                    String b = t.name(s -> n.peers.contains(s) && !s.equals(a) && !n.cuts.contains(Set.of(a, s)));
                    n.cuts.add(Set.of(a, b));
                    break;
                default:
                    throw t.fault(1);
            }
            t.lineEnd();
        }
        t.finish();
        return n;
    }

    private List<List<String>> parseBook(Parser t) {
        List<List<String>> lines = new ArrayList<>();
        while (!t.atEnd()) {
            String first = t.front().text();
            if (!List.of("put", "drop", "pull", "cut", "heal").contains(first)) {
                throw t.fault(1);
            }
            if (lines.size() == 40) {
                throw t.fault(4);
            }
            t.take();
            String p = t.name(w.peers::contains);
            List<String> line = new ArrayList<>(List.of(first, p));
            if (first.equals("put") || first.equals("drop")) {
                line.add(t.name(w.keys::contains));
            } else {
                line.add(t.name(s -> w.peers.contains(s) && !s.equals(p)));
            }
            if (first.equals("put")) {
                line.add("" + t.number(0, 999));
            }
            t.lineEnd();
            lines.add(line);
        }
        t.finish();
        return lines;
    }

    private int onesRead;

    /** Predicates look at the world of the moment, so they are asked for it anew. */
    private Predicate<String> parseCond(Parser t, int within) {
        Predicate<String> c = parseAll(t, within);
        while (t.front().text().equals("or")) {
            t.take();
            c = c.or(parseAll(t, within));
        }
        return c;
    }

    private Predicate<String> parseAll(Parser t, int within) {
        Predicate<String> c = parseOne(t, within);
        while (t.front().text().equals("and")) {
            t.take();
            c = c.and(parseOne(t, within));
        }
        return c;
    }

    private Predicate<String> parseOne(Parser t, int within) {
        String first = t.front().text();
        if (!List.of("not", "(", "torn", "held", "gone", "level", "copies", "stamp", "number").contains(first)) {
            throw t.fault(1);
        }
        if (onesRead == 20 || within == 9) {
            throw t.fault(4);
        }
        onesRead++;
        t.take();
        switch (first) {
            case "not":
                return parseOne(t, within + 1).negate();
            case "(":
                Predicate<String> c = parseCond(t, within + 1);
                t.sign(")");
                return c;
            case "torn":
                return k -> torn(w, k);
            case "held":
                String p = t.name(w.peers::contains);
                return k -> w.has.get(p).containsKey(k) && w.has.get(p).get(k).value() >= 0;
            case "gone":
                String q = t.name(w.peers::contains);
                return k -> w.has.get(q).containsKey(k) && w.has.get(q).get(k).value() == -1;
            default:
                if (!t.front().text().matches("[<=>]")) {
                    throw t.fault(1);
                }
                String sign = t.take().text();
                int n = t.number(0, 999);
                return k -> {
                    long x = first.equals("level") ? levelOf(w, k) : first.equals("copies") ? copies(w, k)
                        : first.equals("stamp") ? stamp(w, k) : w.keys.indexOf(k);
                    return sign.equals("<") ? x < n : sign.equals(">") ? x > n : x == n;
                };
        }
    }

    private void faultIs(Fault f) {
        fault = f == null ? 0 : f.kind;
        faultLine = f == null ? NONE : f.line;
        tape = new byte[0];
    }

    // ---- the face

    int feed(int a, int b, int c, int d, int e) {
        if (tape.length > 920) {
            return NONE;
        }
        int n = tape.length;
        tape = Arrays.copyOf(tape, n + 20);
        for (int x : new int[] {a, b, c, d, e}) {
            tape[n++] = (byte) (x >> 24);
            tape[n++] = (byte) (x >> 16);
            tape[n++] = (byte) (x >> 8);
            tape[n++] = (byte) x;
        }
        return n;
    }

    boolean end(int n) {
        if (n < 0 || n > tape.length) {
            return false;
        }
        tape = Arrays.copyOf(tape, n);
        return true;
    }

    int cluster() {
        Parser t = new Parser(900);
        try {
            World n = parseCluster(t);
            w = n;
            past.clear();
            faultIs(null);
            return t.line;
        } catch (Fault f) {
            faultIs(f);
            return -1 - f.at;
        }
    }

    int fault() {
        return fault;
    }

    int faultLine() {
        return faultLine;
    }

    private String k(int k) {
        return k < 0 || k >= w.keys.size() ? null : w.keys.get(k);
    }

    private String p(int p) {
        return p < 0 || p >= w.peers.size() ? null : w.peers.get(p);
    }

    private boolean two(int a, int b) {
        return p(a) != null && p(b) != null && a != b;
    }

    int key(int i, int what) {
        String k = k(i);
        if (k == null || what < 0 || what > 2) {
            return NONE;
        }
        if (what == 0) {
            return levelOf(w, k);
        }
        if (what == 1) {
            return (int) w.keys.stream().filter(o -> o.compareTo(k) < 0).count();
        }
        return w.peers.stream().mapToInt(p -> w.has.get(p).containsKey(k) ? 1 << w.peers.indexOf(p) : 0).sum();
    }

    int digest(int i) {
        if (k(i) == null) {
            throw new NoSuchElementException();
        }
        return digestOf(k(i));
    }

    int peer(int i, int what) {
        String p = p(i);
        if (p == null) {
            return NONE;
        }
        List<Node> all = nodes(w, p);
        switch (what) {
            case 0:
                return w.has.get(p).size();
            case 1:
                return (int) w.has.get(p).values().stream().filter(e -> e.value() == -1).count();
            case 2:
                return all.size();
            case 3:
                return all.isEmpty() ? NONE : all.get(0).level;
            case 4:
                return w.peers.stream().filter(q -> !q.equals(p)).mapToInt(q -> w.cuts.contains(Set.of(p, q)) ? 1 << w.peers.indexOf(q) : 0).sum();
            case 5:
                return w.peers.stream().mapToInt(q -> rootOf(w, q) == rootOf(w, p) ? 1 << w.peers.indexOf(q) : 0).sum();
            case 6:
                return w.came.getOrDefault(p, 0);
            default:
                return NONE;
        }
    }

    int root(int p) {
        if (p(p) == null) {
            throw new NoSuchElementException();
        }
        return rootOf(w, p(p));
    }

    int entry(int p, int k, int what) {
        if (p(p) == null || k(k) == null || !w.has.get(p(p)).containsKey(k(k)) || what < 0 || what > 2) {
            throw new NoSuchElementException();
        }
        Entry e = w.has.get(p(p)).get(k(k));
        return what == 0 ? e.value() : what == 1 ? e.stamp() : digestOf(k(k), e);
    }

    int node(int p, int i, int what) {
        if (p(p) == null || i < 0 || i >= nodes(w, p(p)).size() || what < 0 || what > 6) {
            throw new NoSuchElementException();
        }
        List<Node> all = nodes(w, p(p));
        Node n = all.get(i);
        int[] told = {n.level, n.keys.size(), w.keys.indexOf(n.keys.get(0)), w.keys.indexOf(n.keys.get(n.keys.size() - 1)),
            n.below.size(), n.above == null ? NONE : all.indexOf(n.above), n.digest};
        return told[what];
    }

    int now(int what) {
        switch (what) {
            case 0:
                return w.pulls;
            case 1:
                return w.offers;
            case 2:
                return w.stamps;
            case 3:
                return w.keys.stream().mapToInt(k -> torn(w, k) ? 1 << w.keys.indexOf(k) : 0).sum();
            case 4:
                return kinds(w);
            default:
                return NONE;
        }
    }

    private interface Deed {
        int in(World w);
    }

    private int deed(Deed d) {
        World next = w.copy();
        int why = d.in(next);
        if (why == 0) {
            remember();
            w = next;
        }
        return why;
    }

    private void remember() {
        past.addLast(w);
        if (past.size() > 8) {
            past.removeFirst();
        }
    }

    int put(int p, int k, int value) {
        return p(p) == null || k(k) == null || value < 0 || value > 999 ? NONE : deed(n -> doPut(n, p(p), k(k), value));
    }

    int drop(int p, int k) {
        return p(p) == null || k(k) == null ? NONE : deed(n -> doDrop(n, p(p), k(k)));
    }

    int pull(int a, int b) {
        return two(a, b) ? deed(n -> doPull(n, p(a), p(b))) : NONE;
    }

    int cut(int a, int b) {
        return two(a, b) ? deed(n -> doCut(n, p(a), p(b))) : NONE;
    }

    int heal(int a, int b) {
        return two(a, b) ? deed(n -> doHeal(n, p(a), p(b))) : NONE;
    }

    int undo() {
        if (past.isEmpty()) {
            return NONE;
        }
        World before = past.removeLast();
        before.sentence = w.sentence;
        before.ones = w.ones;
        w = before;
        return past.size();
    }

    int visits(int a, int b) {
        return two(a, b) ? visited(w, p(a), p(b)).size() : NONE;
    }

    int differs(int a, int b) {
        return !two(a, b) ? NONE : w.keys.stream().mapToInt(k -> String.valueOf(w.has.get(p(a)).get(k))
            .equals(String.valueOf(w.has.get(p(b)).get(k))) ? 0 : 1 << w.keys.indexOf(k)).sum();
    }

    int offers(int a, int b) {
        if (!two(a, b)) {
            return NONE;
        }
        latestOffers = offersOf(w, p(a), p(b)).stream().map(w.keys::indexOf).toList();
        return latestOffers.size();
    }

    int offerAt(int k) {
        return k < 0 || k >= latestOffers.size() ? NONE : latestOffers.get(k);
    }

    int fresh(int p, int k, int value) {
        if (p(p) == null || k(k) == null || value < 0 || value > 999) {
            return NONE;
        }
        World n = w.copy();
        doPut(n, p(p), k(k), value);
        Set<Integer> before = new HashSet<>();
        nodes(w, p(p)).forEach(x -> before.add(x.digest));
        return (int) nodes(n, p(p)).stream().filter(x -> !before.contains(x.digest)).count();
    }

    int pulls(int a, int b) {
        if (!two(a, b) || w.cuts.contains(Set.of(p(a), p(b)))) {
            return NONE;
        }
        World n = w.copy();
        int done = 0;
        while (rootOf(n, p(a)) != rootOf(n, p(b))) {
            if (done == 100) {
                return NONE;
            }
            doPull(n, done % 2 == 0 ? p(a) : p(b), done % 2 == 0 ? p(b) : p(a));
            done++;
        }
        return done;
    }

    int path(int p, int k) {
        if (p(p) == null || k(k) == null || !w.has.get(p(p)).containsKey(k(k))) {
            return NONE;
        }
        Node n = nodes(w, p(p)).stream().filter(x -> x.keys.contains(k(k))).findFirst().orElseThrow();
        int depth = 0;
        for (; n != null; n = n.above) {
            depth++;
        }
        return depth;
    }

    private static int term(int x, int y, int what) {
        int d = java.math.BigInteger.valueOf(x).gcd(java.math.BigInteger.valueOf(y)).intValue();
        return (what == 0 ? x : y) / d;
    }

    int mean(int p, int what) {
        if (p(p) == null || w.has.get(p(p)).isEmpty() || what < 0 || what > 1) {
            throw new NoSuchElementException();
        }
        return term(w.has.get(p(p)).size(), nodes(w, p(p)).size(), what);
    }

    int part(int a, int b, int what) {
        if (!two(a, b) || w.has.get(p(a)).isEmpty() || what < 0 || what > 1) {
            throw new NoSuchElementException();
        }
        return term(visited(w, p(a), p(b)).size(), nodes(w, p(a)).size(), what);
    }

    int tag(int i) {
        String p = p(i);
        if (p == null) {
            return NONE;
        }
        latestTag = p + " has " + w.has.get(p).size() + " in " + nodes(w, p).size();
        for (String q : w.peers) {
            if (!q.equals(p) && w.cuts.contains(Set.of(p, q))) {
                latestTag += " cut " + q;
                break;
            }
        }
        return latestTag.length();
    }

    int byteAt(int i) {
        return i < 0 || i >= latestTag.length() ? NONE : latestTag.charAt(i);
    }

    private static int[] rounds(World n, int rounds, int seed) {
        int[] refused = new int[4];
        int[] x = {seed};
        java.util.function.IntUnaryOperator draw = m -> {
            x[0] = x[0] * 1103515245 + 12345;
            return (x[0] >>> 8) % m;
        };
        for (int i = 0; i < rounds; i++) {
            int d = draw.applyAsInt(8);
            String a = n.peers.get(draw.applyAsInt(n.peers.size()));
            if (d < 3) {
                String k = n.keys.get(draw.applyAsInt(n.keys.size()));
                refused[d < 2 ? doPut(n, a, k, draw.applyAsInt(10)) : doDrop(n, a, k)]++;
                continue;
            }
            String b = n.peers.get(draw.applyAsInt(n.peers.size()));
            if (a.equals(b)) {
                continue;
            }
            if (d < 7) {
                refused[doPull(n, a, b)]++;
            } else if (doCut(n, a, b) != 0) {
                doHeal(n, a, b);
            }
        }
        return refused;
    }

    int drawn(int n, int seed) {
        if (n < 1 || n > 60) {
            return NONE;
        }
        if (w.keys.isEmpty() || w.peers.isEmpty()) {
            return 0;
        }
        return deed(x -> {
            latestRefused = rounds(x, n, seed);
            return 0;
        }) + n;
    }

    int refused(int why) {
        return latestRefused == null || why < 1 || why > 3 ? NONE : latestRefused[why];
    }

    int odds(int n, int seed) {
        if (n < 1 || n > 20) {
            return NONE;
        }
        int alike = 0;
        for (int i = 0; i < n; i++) {
            World x = w.copy();
            if (!w.keys.isEmpty() && !w.peers.isEmpty()) {
                rounds(x, 20, seed + i);
            }
            alike += kinds(x) <= 1 ? 1 : 0;
        }
        return alike;
    }

    int book(int lives) {
        if (lives != 0 && lives != 1) {
            return -1000;
        }
        List<List<String>> lines;
        try {
            lines = parseBook(new Parser(400));
            faultIs(null);
        } catch (Fault f) {
            faultIs(f);
            return -2 - f.at;
        }
        World n = w.copy();
        int good = 0;
        int why = 0;
        for (List<String> l : lines) {
            why = live(n, l);
            if (why != 0) {
                break;
            }
            good++;
        }
        latestTold = new int[] {why, good, n.stamps, kinds(n)};
        if (lives == 1 && good > 0) {
            remember();
            w = n;
        }
        return why == 0 ? NONE : good;
    }

    private static int live(World n, List<String> l) {
        int why;
        switch (l.get(0)) {
            case "put":
                return doPut(n, l.get(1), l.get(2), Integer.parseInt(l.get(3)));
            case "drop":
                why = doDrop(n, l.get(1), l.get(2));
                return why == 0 ? 0 : 10 + why;
            case "pull":
                why = doPull(n, l.get(1), l.get(2));
                return why == 0 ? 0 : 20 + why;
            case "cut":
                why = doCut(n, l.get(1), l.get(2));
                return why == 0 ? 0 : 30 + why;
            default:
                why = doHeal(n, l.get(1), l.get(2));
                return why == 0 ? 0 : 40 + why;
        }
    }

    int told(int what) {
        return latestTold == null || what < 0 || what > 3 ? NONE : latestTold[what];
    }

    int sentence() {
        onesRead = 0;
        try {
            Parser t = new Parser(200);
            Predicate<String> c = parseCond(t, 1);
            t.finish();
            w.sentence = c;
            w.ones = onesRead;
            faultIs(null);
            return onesRead;
        } catch (Fault f) {
            faultIs(new Fault(f.kind, f.at, 0));
            return -1 - f.at;
        }
    }

    int said(int k) {
        if (w.sentence == null || k < -1) {
            return NONE;
        }
        List<String> keys = w.keys.stream().filter(w.sentence).toList();
        return k == NONE ? keys.size() : k < keys.size() ? w.keys.indexOf(keys.get(k)) : NONE;
    }

    boolean image(int k) {
        if (k != 0 && k != 1) {
            return false;
        }
        images[k] = w.copy();
        return true;
    }

    boolean restore(int k) {
        if (k != 0 && k != 1 || images[k] == null) {
            return false;
        }
        w = images[k].copy();
        past.clear();
        return true;
    }

    int count(int what) {
        switch (what) {
            case 0:
                return w.keys.size();
            case 1:
                return w.peers.size();
            case 2:
                return w.bits;
            case 3:
                return w.page;
            case 4:
                return List.of("late", "most", "least").indexOf(w.rule);
            case 5:
                return tape.length;
            default:
                return NONE;
        }
    }
}
