/** Promises 1 to 40 one by one, with answers reckoned by hand; levels by 'bits 1': a 2, b 0, c 1, d 0, e 3, f 0, m 5. */
public final class PromisesTest {
    private static final int NONE = -1;
    private static final String SMALL =
        "bits 1;page 2;key e;key a;key c;key b;key d;key f;peer x;peer y;peer z;"
        + "has x a 5;has x b 6;has x c 7;has x e 8;has y a 5;cut y z;";

    private PromisesTest() {
    }

    public static void main(String[] args) {
        newObject();
        tape();
        clusters();
        keysAndDigests();
        peersAndRoots();
        entries();
        nodes();
        nowTells();
        puttingAndDropping();
        pulling();
        rules();
        pages();
        cuttingAndHealing();
        undoing();
        undoOfMany();
        twoPeers();
        offersStay();
        freshNodes();
        pullsOfTwo();
        pathsAndFractions();
        tags();
        draws();
        refusals();
        odds();
        books();
        sentences();
        manySentences();
        sentenceStays();
        images();
        counts();
        Check.end();
    }

    private static void newObject() {
        TreePeers x = new TreePeers();
        Check.is("1: count(0)", x.count(0), 0);
        Check.is("1: count(1)", x.count(1), 0);
        Check.is("1: bits", x.count(2), 2);
        Check.is("1: page", x.count(3), 4);
        Check.is("1: rule", x.count(4), 0);
        Check.is("1: tape", x.count(5), 0);
        Check.is("1: roots", x.now(4), 0);
        Check.is("1: fault()", x.fault(), 0);
        Check.is("1: faultLine()", x.faultLine(), NONE);
        Check.is("1: undo()", x.undo(), NONE);
        Check.is("1: image(0)", x.image(0), true);
        Check.is("1: restore(0)", x.restore(0), true);
        Check.is("1: an empty tape is a CLUSTER", x.cluster(), 0);
        Check.is("1: an empty tape is a BOOK", x.book(1), NONE);
        Check.is("1: it lived no LINE", x.undo(), NONE);
        Check.is("1: an empty tape is no SENTENCE", x.sentence(), -1);
        Check.is("1: said()", x.said(-1), NONE);
    }

    private static void tape() {
        TreePeers x = new TreePeers();
        for (int i = 1; i <= 47; i++) {
            Check.is("2: feed()", x.feed(0x20202020, 0x0a0a0a0a, 0x20202020, 0x20202020, 0x20202020), 20 * i);
        }
        Check.is("2: feed() beyond 940", x.feed(0, 0, 0, 0, 0), NONE);
        Check.is("2: none came", x.count(5), 940);
        Check.is("3: end(941)", x.end(941), false);
        Check.is("3: end(-1)", x.end(-1), false);
        Check.is("3: end(MIN)", x.end(Integer.MIN_VALUE), false);
        Check.is("3: the tape stays", x.count(5), 940);
        Check.is("3: end(940)", x.end(940), true);
        Check.is("3: end(921)", x.end(921), true);
        Check.is("2: feed() behind 921", x.feed(0, 0, 0, 0, 0), NONE);
        Check.is("3: end(920)", x.end(920), true);
        Check.is("2: feed() behind 920", x.feed(0, 0, 0, 0, 0), 940);
        Check.is("3: end(0)", x.end(0), true);
        Check.is("3: empty", x.count(5), 0);
        Check.is("2: highest first", x.feed(0x70656572, 0x20613b23, 0, 0, 0), 20);
        Check.is("2: 'peer a;' then '#'", x.cluster(), -1 - 7);
        Check.is("4: the tape is empty with a FAULT", x.count(5), 0);
    }

    private static void clusters() {
        TreePeers x = new TreePeers();
        Check.is("4: LINES", Check.cluster(x, SMALL), 17);
        Check.is("4: the tape is empty", x.count(5), 0);
        Check.is("5: no FAULT", x.fault(), 0);
        Check.is("6: no LINE", x.faultLine(), NONE);
        Check.is("4: a FAULT", Check.cluster(x, "key a; key b\n; peer a;"), -1 - 20);
        Check.is("5: its kind", x.fault(), 3);
        Check.is("6: its LINE", x.faultLine(), 2);
        Check.is("4: the CLUSTER stays", x.count(0), 6);
        Check.is("4: so do the ENTRIES", x.peer(0, 0), 4);
        Check.is("34: -1000", x.book(-1), -1000);
        Check.is("5: -1000 leaves it", x.fault(), 3);
        Check.is("6: -1000 leaves it", x.faultLine(), 2);
        Check.is("34: a good BOOK", Check.book(x, 0, "put x a 1;"), NONE);
        Check.is("5: none behind a good one", x.fault(), 0);
        Check.is("6: none behind a good one", x.faultLine(), NONE);
        Check.is("36: a bad SENTENCE", Check.sentence(x, "torn torn"), -1 - 5);
        Check.is("5: of a SENTENCE", x.fault(), 1);
        Check.is("6: of a SENTENCE", x.faultLine(), 0);
        Check.is("36: a good SENTENCE", Check.sentence(x, "torn"), 1);
        x.put(0, 0, 3);
        Check.is("4: a new one", Check.cluster(x, "peer p;key k;"), 2);
        Check.is("4: nothing can be undone", x.undo(), NONE);
        Check.is("4: no SENTENCE", x.said(-1), NONE);
        Check.is("4: no STAMPS", x.now(2), 0);
        Check.is("4: bits again", x.count(2), 2);
        Check.is("4: page again", x.count(3), 4);
        Check.is("4: no ENTRIES", x.peer(0, 0), 0);
        Check.is("4: none cut", x.peer(0, 4), 0);
        Check.is("4: settings behind peers", Check.cluster(x, "peer p;rule least;page 12;bits 4;"), 4);
        Check.is("40: bits", x.count(2), 4);
        Check.is("40: page", x.count(3), 12);
        Check.is("40: rule", x.count(4), 2);
        x = Check.of("rule most;");
        Check.is("40: most", x.count(4), 1);
        x = Check.of("rule late;");
        Check.is("40: late", x.count(4), 0);
    }

    private static void keysAndDigests() {
        TreePeers x = Check.of(SMALL);
        int[] levels = {3, 2, 1, 0, 0, 0};
        int[] places = {4, 0, 2, 1, 3, 5};
        int[] holders = {1, 3, 1, 1, 0, 0};
        for (int k = 0; k < 6; k++) {
            Check.is("7: level", x.key(k, 0), levels[k]);
            Check.is("7: place", x.key(k, 1), places[k]);
            Check.is("7: holders", x.key(k, 2), holders[k]);
        }
        Check.is("7: no such what", x.key(0, 3), NONE);
        Check.is("7: no such what", x.key(0, -1), NONE);
        Check.is("7: no such key", x.key(6, 0), NONE);
        Check.is("7: no such key", x.key(-1, 0), NONE);
        x.drop(0, 0);
        Check.is("7: a GONE one is an ENTRY", x.key(0, 2), 1);
        Check.is("8: digest", x.digest(1), -468852428);
        Check.noSuch("8: digest(6)", () -> Check.of(SMALL).digest(6));
        Check.noSuch("8: digest(-1)", () -> Check.of(SMALL).digest(-1));
        TreePeers y = Check.of("key ab;key b;key a;key abc;key bxzp;");
        int[] order = {1, 3, 0, 2, 4};
        for (int k = 0; k < 5; k++) {
            Check.is("7: the beginning of another one is ahead", y.key(k, 1), order[k]);
        }
        Check.is("8: four bytes", y.digest(4), -1970778112);
        Check.is("7: 12 zeros by 2 bits", y.key(4, 0), 6);
        Check.is("7: 12 zeros by 1 bit", Check.of("bits 1;key bxzp;").key(0, 0), 12);
        Check.is("7: 5 zeros by 2 bits", Check.of("key m;").key(0, 0), 2);
        Check.is("7: 5 zeros by 3 bits", Check.of("bits 3;key m;").key(0, 0), 1);
        Check.is("7: 5 zeros by 4 bits", Check.of("bits 4;key m;").key(0, 0), 1);
        Check.is("7: 3 zeros by 4 bits", Check.of("bits 4;key e;").key(0, 0), 0);
    }

    private static void peersAndRoots() {
        TreePeers x = Check.of(SMALL + "peer w;");
        Check.is("9: ENTRIES", x.peer(0, 0), 4);
        Check.is("9: GONE", x.peer(0, 1), 0);
        Check.is("9: NODES", x.peer(0, 2), 4);
        Check.is("9: LEVEL", x.peer(0, 3), 3);
        Check.is("9: LEVEL without a NODE", x.peer(2, 3), NONE);
        Check.is("9: cut", x.peer(1, 4), 4);
        Check.is("9: cut", x.peer(2, 4), 2);
        Check.is("9: same ROOT", x.peer(2, 5), 12);
        Check.is("9: same ROOT", x.peer(0, 5), 1);
        Check.is("9: came", x.peer(3, 6), 0);
        x.drop(0, 1);
        Check.is("9: GONE", x.peer(0, 1), 1);
        Check.is("9: ENTRIES", x.peer(0, 0), 4);
        Check.is("9: another what", x.peer(0, 7), NONE);
        Check.is("9: another what", x.peer(0, -1), NONE);
        Check.is("9: no such one", x.peer(4, 0), NONE);
        Check.is("9: no such one", x.peer(-1, 0), NONE);
        Check.is("10: without ENTRIES", x.root(2), 0);
        int a = mix(mix(x.digest(1), 5), 6);
        Check.is("10: of one ENTRY", x.root(1), mix(mix(mix(3, 0), a), 0));
        Check.noSuch("10: root(4)", () -> Check.of(SMALL).root(4));
        Check.noSuch("10: root(-1)", () -> Check.of(SMALL).root(-1));
    }

    private static int mix(int x, int y) {
        int m = (x ^ y) * 16777619;
        return m ^ m >>> 15;
    }

    private static void entries() {
        TreePeers x = Check.of(SMALL);
        Check.is("11: VALUE", x.entry(0, 3, 0), 6);
        Check.is("11: STAMP", x.entry(0, 3, 1), 2);
        Check.is("11: DIGEST", x.entry(0, 3, 2), mix(mix(x.digest(3), 2), 7));
        x.drop(0, 3);
        Check.is("11: GONE", x.entry(0, 3, 0), -1);
        Check.is("11: STAMP", x.entry(0, 3, 1), 6);
        Check.is("11: DIGEST of a GONE one", x.entry(0, 3, 2), mix(mix(x.digest(3), 6), 0));
        Check.noSuch("11: none", () -> x.entry(0, 4, 0));
        Check.noSuch("11: what", () -> x.entry(0, 3, 3));
        Check.noSuch("11: what", () -> x.entry(0, 3, -1));
        Check.noSuch("11: peer", () -> x.entry(3, 3, 0));
        Check.noSuch("11: peer", () -> x.entry(-1, 3, 0));
        Check.noSuch("11: key", () -> x.entry(0, 6, 0));
        Check.noSuch("11: key", () -> x.entry(0, -1, 0));
    }

    /** One NODE of a and i (LEVEL 2): below it b and d ahead of i beside c, then j; then what is behind. */
    private static void nodes() {
        TreePeers x = Check.of("bits 1;peer p;key j;key i;key d;key c;key b;key a;key k;key l;"
            + "has p a 1;has p b 2;has p c 3;has p d 4;has p i 5;has p j 6;has p k 7;has p l 8;");
        int[][] due = {
            {2, 2, 5, 1, 2, -1},
            {1, 1, 3, 3, 2, 0},
            {0, 1, 4, 4, 0, 1},
            {0, 1, 2, 2, 0, 1},
            {1, 1, 6, 6, 2, 0},
            {0, 1, 0, 0, 0, 4},
            {0, 1, 7, 7, 0, 4}};
        Check.is("9: NODES", x.peer(0, 2), due.length);
        for (int i = 0; i < due.length; i++) {
            for (int what = 0; what < 6; what++) {
                Check.is("12: node " + i + " what " + what, x.node(0, i, what), due[i][what]);
            }
        }
        int leaf = mix(mix(mix(1, 0), x.entry(0, 4, 2)), 0);
        Check.is("12: DIGEST of a leaf", x.node(0, 2, 6), leaf);
        int c = mix(mix(mix(2, leaf), x.entry(0, 3, 2)), x.node(0, 3, 6));
        Check.is("12: DIGEST with two below", x.node(0, 1, 6), c);
        int first = mix(mix(3, 0), x.entry(0, 5, 2));
        first = mix(mix(mix(first, c), x.entry(0, 1, 2)), x.node(0, 4, 6));
        Check.is("12: DIGEST of the first NODE", x.node(0, 0, 6), first);
        Check.is("10: ROOT", x.root(0), first);
        Check.noSuch("12: no such node", () -> x.node(0, 7, 0));
        Check.noSuch("12: no such node", () -> x.node(0, -1, 0));
        Check.noSuch("12: no such what", () -> x.node(0, 0, 7));
        Check.noSuch("12: no such what", () -> x.node(0, 0, -1));
        Check.noSuch("12: no such peer", () -> x.node(1, 0, 0));
        Check.noSuch("12: no such peer", () -> x.node(-1, 0, 0));
    }

    private static void nowTells() {
        TreePeers x = Check.of(SMALL);
        Check.is("13: pulls", x.now(0), 0);
        Check.is("13: offers", x.now(1), 0);
        Check.is("13: STAMPS", x.now(2), 5);
        Check.is("13: torn", x.now(3), 15);
        Check.is("13: ROOTS", x.now(4), 3);
        Check.is("13: another", x.now(5), NONE);
        Check.is("13: another", x.now(-1), NONE);
        x.pull(2, 0);
        x.pull(2, 0);
        x.pull(2, 0);
        Check.is("13: a refused pull is none", x.now(0), 2);
        Check.is("13: offers", x.now(1), 4);
        Check.is("13: ROOTS", x.now(4), 2);
        Check.is("9: came", x.peer(2, 6), 4);
        Check.is("9: came", x.peer(0, 6), 0);
        Check.is("13: torn", Check.of("key a;peer p;has p a 1;").now(3), 0);
        Check.is("13: torn", Check.of("key a;key b;peer p;peer q;has p b 1;").now(3), 2);
    }

    private static void puttingAndDropping() {
        TreePeers x = Check.of(SMALL);
        Check.is("14: it has it", x.put(0, 1, 5), 1);
        Check.is("14: no STAMP then", x.now(2), 5);
        Check.is("14: another VALUE", x.put(0, 1, 0), 0);
        Check.is("14: STAMP", x.entry(0, 1, 1), 6);
        Check.is("14: 999", x.put(2, 1, 999), 0);
        Check.is("14: 1000", x.put(2, 1, 1000), NONE);
        Check.is("14: -1", x.put(2, 1, -1), NONE);
        Check.is("14: peer", x.put(3, 1, 1), NONE);
        Check.is("14: peer", x.put(-1, 1, 1), NONE);
        Check.is("14: key", x.put(0, 6, 1), NONE);
        Check.is("14: key", x.put(0, -1, 1), NONE);
        Check.is("15: none", x.drop(0, 5), 1);
        Check.is("15: one", x.drop(0, 1), 0);
        Check.is("15: GONE", x.entry(0, 1, 0), -1);
        Check.is("15: STAMP", x.entry(0, 1, 1), 8);
        Check.is("15: GONE already", x.drop(0, 1), 1);
        Check.is("14: behind a GONE one", x.put(0, 1, 0), 0);
        Check.is("15: peer", x.drop(3, 1), NONE);
        Check.is("15: peer", x.drop(-1, 1), NONE);
        Check.is("15: key", x.drop(0, 6), NONE);
        Check.is("15: key", x.drop(0, -1), NONE);
    }

    private static void pulling() {
        TreePeers x = Check.of("page 1;key a;key b;peer p;peer q;peer r;has p a 1;has q b 1;cut p r;");
        Check.is("16: alike", x.pull(0, 0), NONE);
        Check.is("16: no such", x.pull(0, 3), NONE);
        Check.is("16: no such", x.pull(-1, 0), NONE);
        Check.is("16: cut", x.pull(0, 2), 1);
        Check.is("16: cut the other way", x.pull(2, 0), 1);
        Check.is("16: no OFFERS", x.pull(1, 2), 3);
        Check.is("16: done", x.pull(0, 1), 0);
        Check.is("16: VALUE", x.entry(0, 1, 0), 1);
        Check.is("16: with the STAMP", x.entry(0, 1, 1), 2);
        Check.is("16: no STAMP is given", x.now(2), 2);
        Check.is("16: no OFFERS", x.pull(0, 1), 3);
        Check.is("16: done", x.pull(1, 0), 0);
        Check.is("16: ROOTS alike", x.pull(1, 0), 2);
        Check.is("16: ROOTS alike", x.pull(0, 1), 2);
        x.heal(0, 2);
        TreePeers y = Check.of("peer p;peer q;cut p q;");
        Check.is("16: cut is ahead of alike", y.pull(0, 1), 1);
        y.heal(0, 1);
        Check.is("16: both empty", y.pull(0, 1), 2);
    }

    /** a: p 5 (STAMP 1), q 3 (STAMP 4); b: p 3 (2), q 5 (5); c: p 4 (3), q 4 (6); d: p 7 (7), q GONE (8 or 9). */
    private static void rules() {
        String facts = "key a;key b;key c;key d;peer p;peer q;has p a 5;has p b 3;has p c 4;has q a 3;has q b 5;has q c 4;has p d 7;has q d 7;";
        int[][] toP = {{0, 1, 2, 3}, {1, 2}, {0, 2}};
        int[][] toQ = {{}, {0, 3}, {1, 3}};
        String[] names = {"late", "most", "least"};
        for (int r = 0; r < 3; r++) {
            TreePeers x = Check.of("rule " + names[r] + ";" + facts);
            x.drop(1, 3);
            Check.is(names[r] + ": offers to p", x.offers(0, 1), toP[r].length);
            for (int i = 0; i < toP[r].length; i++) {
                Check.is(names[r] + ": offer " + i, x.offerAt(i), toP[r][i]);
            }
            Check.is(names[r] + ": offers to q", x.offers(1, 0), toQ[r].length);
            for (int i = 0; i < toQ[r].length; i++) {
                Check.is(names[r] + ": offer " + i, x.offerAt(i), toQ[r][i]);
            }
        }
    }

    private static void pages() {
        String facts = "key a;key b;key c;key d;key e;key f;peer p;peer q;has q f 1;has q e 1;has q d 1;has q c 1;has q b 1;has q a 1;";
        TreePeers x = Check.of(facts);
        Check.is("16: page 4 without", x.pull(0, 1), 0);
        Check.is("16: four", x.peer(0, 0), 4);
        Check.is("16: the first ones", x.entry(0, 3, 1), 3);
        Check.noSuch("16: not behind", () -> x.entry(0, 4, 0));
        Check.is("16: the rest", x.pull(0, 1), 0);
        Check.is("13: OFFERS", x.now(1), 6);
        Check.is("9: alike", x.peer(0, 5), 3);
        TreePeers y = Check.of("page 12;" + facts);
        Check.is("16: all", y.pull(0, 1), 0);
        Check.is("16: all", y.peer(0, 0), 6);
        Check.is("13: OFFERS", y.now(1), 6);
    }

    private static void cuttingAndHealing() {
        TreePeers x = Check.of(SMALL);
        Check.is("17: cut", x.cut(1, 2), 1);
        Check.is("17: cut", x.cut(2, 1), 1);
        Check.is("17: not so far", x.cut(0, 2), 0);
        Check.is("9: cut", x.peer(2, 4), 3);
        Check.is("9: cut", x.peer(0, 4), 4);
        Check.is("18: healed", x.heal(2, 1), 0);
        Check.is("18: not cut", x.heal(1, 2), 1);
        Check.is("9: cut", x.peer(2, 4), 1);
        Check.is("17: alike", x.cut(1, 1), NONE);
        Check.is("17: no such", x.cut(1, 3), NONE);
        Check.is("17: no such", x.cut(-1, 1), NONE);
        Check.is("18: alike", x.heal(1, 1), NONE);
        Check.is("18: no such", x.heal(3, 1), NONE);
        Check.is("18: no such", x.heal(1, -1), NONE);
    }

    private static void undoing() {
        TreePeers x = Check.of(SMALL);
        int before = x.root(0);
        Check.is("19: none", x.undo(), NONE);
        x.put(0, 1, 5);
        Check.is("19: refused is none", x.undo(), NONE);
        x.put(0, 4, 9);
        x.drop(0, 1);
        x.pull(2, 0);
        x.cut(0, 1);
        x.heal(1, 2);
        Check.is("19: heal", x.undo(), 4);
        Check.is("19: cut again", x.peer(1, 4), 5);
        Check.is("19: cut", x.undo(), 3);
        Check.is("19: not cut", x.peer(0, 4), 0);
        Check.is("19: pull", x.undo(), 2);
        Check.is("19: no PULLS", x.now(0), 0);
        Check.is("19: no OFFERS", x.now(1), 0);
        Check.is("19: none came", x.peer(2, 6), 0);
        Check.is("19: no ENTRIES", x.peer(2, 2), 0);
        Check.is("19: drop", x.undo(), 1);
        Check.is("19: VALUE again", x.entry(0, 1, 0), 5);
        Check.is("19: STAMPS again", x.now(2), 6);
        Check.is("19: put", x.undo(), 0);
        Check.is("19: STAMPS again", x.now(2), 5);
        Check.is("19: ROOT again", x.root(0), before);
        Check.is("19: no more", x.undo(), NONE);
        Check.is("19: drawn()", x.drawn(10, 77), 10);
        Check.is("19: drawn()", x.undo(), 0);
        Check.is("19: ROOT again", x.root(0), before);
        Check.is("19: a judged BOOK", Check.book(x, 0, "put x d 1;"), NONE);
        Check.is("19: a judged BOOK", x.undo(), NONE);
        Check.is("19: a BOOK wrong at once", Check.book(x, 1, "put x a 5;"), 0);
        Check.is("19: a BOOK wrong at once", x.undo(), NONE);
        Check.is("19: a BOOK lived in part", Check.book(x, 1, "put x d 1;put x d 2;put x d 2;"), 2);
        Check.is("19: lived", x.entry(0, 4, 0), 2);
        Check.is("19: a BOOK lived in part", x.undo(), 0);
        Check.is("19: ROOT again", x.root(0), before);
        Check.is("19: STAMPS again", x.now(2), 5);
    }

    private static void undoOfMany() {
        TreePeers x = Check.of("key a;peer p;");
        for (int i = 0; i < 12; i++) {
            Check.is("14: put", x.put(0, 0, i), 0);
        }
        Check.is("14: refused loses none", x.put(0, 0, 11), 1);
        for (int i = 7; i >= 0; i--) {
            Check.is("19: eight are kept", x.undo(), i);
            Check.is("19: VALUE", x.entry(0, 0, 0), 3 + i);
        }
        Check.is("19: no ninth", x.undo(), NONE);
        Check.is("19: VALUE", x.entry(0, 0, 0), 3);
    }

    private static void twoPeers() {
        TreePeers x = Check.of(SMALL);
        Check.is("20: visits", x.visits(0, 1), 4);
        Check.is("20: visits", x.visits(1, 0), 1);
        Check.is("20: of none", x.visits(2, 0), 0);
        Check.is("20: alike", x.visits(1, 1), NONE);
        Check.is("20: no such", x.visits(1, 3), NONE);
        Check.is("20: no such", x.visits(-1, 0), NONE);
        Check.is("21: differs", x.differs(0, 1), 15);
        Check.is("21: differs", x.differs(1, 2), 2);
        Check.is("21: alike", x.differs(2, 2), NONE);
        Check.is("21: no such", x.differs(3, 0), NONE);
        Check.is("21: no such", x.differs(0, -1), NONE);
        TreePeers y = Check.of("bits 1;page 12;peer p;peer q;key a;key b;key i;key j;key l;key m;"
            + "has p a 1;has p b 2;has p i 3;has p j 4;has p l 5;has p m 6;");
        y.pull(1, 0);
        Check.is("20: same ROOTS", y.visits(0, 1), 0);
        y.put(0, 4, 9);
        Check.is("20: from the first one down to it", y.visits(0, 1), 3);
        Check.is("28: PART", y.part(0, 1, 0), 3);
        Check.is("28: PART", y.part(0, 1, 1), 4);
        Check.is("21: differs", y.differs(1, 0), 16);
        Check.is("22: only in visited NODES", y.offers(1, 0), 1);
        Check.is("23: the KEY", y.offerAt(0), 4);
        Check.is("22: none the other way", y.offers(0, 1), 0);
        Check.is("24: FRESH", y.fresh(0, 4, 3), 3);
        Check.is("24: FRESH", y.fresh(0, 5, 3), 1);
    }

    private static void offersStay() {
        TreePeers x = Check.of(SMALL);
        Check.is("23: ahead of any", x.offerAt(0), NONE);
        Check.is("22: OFFERS", x.offers(1, 0), 3);
        Check.is("22: alike", x.offers(1, 1), NONE);
        Check.is("22: no such", x.offers(1, 3), NONE);
        Check.is("22: no such", x.offers(-1, 1), NONE);
        Check.is("23: by names", x.offerAt(0), 3);
        Check.is("23: by names", x.offerAt(1), 2);
        Check.is("23: by names", x.offerAt(2), 0);
        Check.is("23: none such", x.offerAt(3), NONE);
        Check.is("23: none such", x.offerAt(-1), NONE);
        x.pull(1, 0);
        Check.is("23: the latest stays", x.offerAt(2), 0);
        Check.is("22: though cut", x.offers(2, 1), 3);
        Check.is("22: none", x.offers(0, 2), 0);
        Check.is("23: none", x.offerAt(0), NONE);
    }

    private static void freshNodes() {
        TreePeers x = Check.of(SMALL);
        Check.is("24: it has it", x.fresh(0, 1, 5), 0);
        Check.is("24: a new one", x.fresh(0, 4, 9), 4);
        Check.is("24: the deepest", x.fresh(0, 3, 1), 4);
        Check.is("24: the first", x.fresh(0, 0, 1), 1);
        Check.is("24: of none", x.fresh(2, 0, 1), 1);
        Check.is("24: all stays", x.now(2), 5);
        Check.is("24: all stays", x.peer(0, 0), 4);
        Check.is("24: value", x.fresh(0, 0, 1000), NONE);
        Check.is("24: value", x.fresh(0, 0, -1), NONE);
        Check.is("24: peer", x.fresh(3, 0, 1), NONE);
        Check.is("24: peer", x.fresh(-1, 0, 1), NONE);
        Check.is("24: key", x.fresh(0, 6, 1), NONE);
        Check.is("24: key", x.fresh(0, -1, 1), NONE);
        TreePeers y = Check.of("bits 1;peer p;key a;key c;key e;has p a 1;has p c 2;");
        Check.is("24: the NODES below stay", y.fresh(0, 2, 1), 1);
    }

    private static void pullsOfTwo() {
        TreePeers x = Check.of(SMALL);
        Check.is("25: in turn", x.pulls(0, 1), 4);
        Check.is("25: in turn", x.pulls(1, 0), 3);
        Check.is("25: those that can not be count", x.pulls(0, 2), 4);
        Check.is("25: in turn", x.pulls(2, 0), 3);
        Check.is("25: cut", x.pulls(1, 2), NONE);
        Check.is("25: alike", x.pulls(1, 1), NONE);
        Check.is("25: no such", x.pulls(1, 3), NONE);
        Check.is("25: no such", x.pulls(-1, 1), NONE);
        Check.is("25: all stays", x.now(0), 0);
        Check.is("25: all stays", x.peer(1, 0), 1);
        TreePeers y = Check.of("peer p;peer q;");
        Check.is("25: ROOTS alike", y.pulls(0, 1), 0);
        y.cut(0, 1);
        Check.is("25: cut, though ROOTS are alike", y.pulls(0, 1), NONE);
        StringBuilder many = new StringBuilder("page 1;peer p;peer q;");
        for (char c = 'a'; c <= 'o'; c++) {
            many.append("key ").append(c).append(";has p ").append(c).append(" 1;");
        }
        Check.is("25: page by page", Check.of(many.toString()).pulls(0, 1), 30);
        Check.is("25: page by page", Check.of(many.toString()).pulls(1, 0), 29);
    }

    private static void pathsAndFractions() {
        TreePeers x = Check.of(SMALL);
        Check.is("26: first", x.path(0, 0), 1);
        Check.is("26: below", x.path(0, 1), 2);
        Check.is("26: deepest", x.path(0, 3), 4);
        Check.is("26: none", x.path(0, 4), NONE);
        Check.is("26: no such", x.path(3, 0), NONE);
        Check.is("26: no such", x.path(-1, 0), NONE);
        Check.is("26: no such", x.path(0, 6), NONE);
        Check.is("26: no such", x.path(0, -1), NONE);
        Check.is("27: 4 by 4", x.mean(0, 0), 1);
        Check.is("27: 4 by 4", x.mean(0, 1), 1);
        TreePeers y = Check.of("bits 4;key b;key d;key f;key h;key j;key m;peer p;peer q;"
            + "has p b 1;has p d 1;has p f 1;has p h 1;has p j 1;has p m 1;has q b 1;");
        Check.is("27: 6 by 2", y.mean(0, 0), 3);
        Check.is("27: 6 by 2", y.mean(0, 1), 1);
        y.drop(0, 0);
        Check.is("27: GONE ones, too", y.mean(0, 0), 3);
        Check.is("28: 2 by 2", y.part(0, 1, 0), 1);
        Check.is("28: 2 by 2", y.part(0, 1, 1), 1);
        TreePeers z = Check.of("key b;key d;key a;peer p;peer q;has p b 1;has p d 1;has p a 1;");
        Check.is("27: 3 by 2", z.mean(0, 0), 3);
        Check.is("27: 3 by 2", z.mean(0, 1), 2);
        z.pull(1, 0);
        Check.is("28: none by 2", z.part(0, 1, 0), 0);
        Check.is("28: none by 2", z.part(0, 1, 1), 1);
        Check.noSuch("27: no ENTRY", () -> x.mean(2, 0));
        Check.noSuch("27: no such peer", () -> x.mean(3, 0));
        Check.noSuch("27: no such peer", () -> x.mean(-1, 0));
        Check.noSuch("27: no such what", () -> x.mean(0, 2));
        Check.noSuch("27: no such what", () -> x.mean(0, -1));
        Check.noSuch("28: no NODE", () -> x.part(2, 0, 0));
        Check.noSuch("28: alike", () -> x.part(0, 0, 0));
        Check.noSuch("28: no such peer", () -> x.part(0, 3, 0));
        Check.noSuch("28: no such peer", () -> x.part(-1, 0, 0));
        Check.noSuch("28: no such what", () -> x.part(0, 1, 2));
        Check.noSuch("28: no such what", () -> x.part(0, 1, -1));
    }

    private static void tags() {
        TreePeers x = Check.of(SMALL);
        Check.is("30: ahead of any", x.byteAt(0), NONE);
        Check.text("29: tag(0)", Check.tag(x, 0), "x has 4 in 4");
        Check.text("29: tag(1)", Check.tag(x, 1), "y has 1 in 1 cut z");
        x.cut(2, 0);
        Check.text("29: the first one", Check.tag(x, 2), "z has 0 in 0 cut x");
        Check.is("29: no such", x.tag(3), NONE);
        Check.is("29: no such", x.tag(-1), NONE);
        Check.is("30: the latest stays", x.byteAt(0), 'z');
        Check.is("30: none such", x.byteAt(18), NONE);
        Check.is("30: none such", x.byteAt(-1), NONE);
        StringBuilder many = new StringBuilder("bits 4;peer longest;peer another;cut longest another;");
        for (char c = 'a'; c <= 'x'; c++) {
            many.append("key ").append(c).append(";has longest ").append(c).append(" 1;");
        }
        TreePeers y = Check.of(many.toString());
        Check.text("29: two digits", Check.tag(y, 0), "longest has 24 in 3 cut another");
    }

    /** Seed 0: the first numbers are 12345, -740551042, .. so the first draws can be told by hand. */
    private static void draws() {
        TreePeers x = Check.of("key a;key b;key c;peer p;peer q;");
        int seed = 0;
        int[] draw = new int[40];
        for (int i = 0; i < 40; i++) {
            seed = seed * 1103515245 + 12345;
            draw[i] = seed >>> 8;
        }
        Check.is("31: the first draw of 8 by seed 0", draw[0] % 8, 0);
        Check.is("31: one ROUND", x.drawn(1, 0), 1);
        Check.is("31: PUT", x.entry(draw[1] % 2, draw[2] % 3, 0), draw[3] % 10);
        Check.is("31: one STAMP", x.now(2), 1);
        Check.is("31: 0", x.drawn(0, 1), NONE);
        Check.is("31: 61", x.drawn(61, 1), NONE);
        Check.is("31: -1", x.drawn(-1, 1), NONE);
        Check.is("31: 60", x.drawn(60, 1), 60);
        Check.is("31: no KEYS", Check.of("peer p;").drawn(5, 1), 0);
        Check.is("31: no PEERS", Check.of("key k;").drawn(5, 1), 0);
        Check.is("31: no KEYS, too many", Check.of("peer p;").drawn(61, 1), NONE);
        TreePeers y = Check.of("peer p;");
        y.drawn(5, 1);
        Check.is("19: nothing to undo", y.undo(), NONE);
        Check.is("32: none above 0", y.refused(1), NONE);
    }

    private static void refusals() {
        TreePeers x = Check.of("key a;peer p;");
        Check.is("32: ahead of any", x.refused(1), NONE);
        int seed = 5;
        int refused = 0;
        int value = -2;
        int stamps = 0;
        for (int i = 0; i < 60; i++) {
            seed = seed * 1103515245 + 12345;
            int sort = (seed >>> 8) % 8;
            seed = seed * 1103515245 + 12345;
            seed = seed * 1103515245 + 12345;
            if (sort < 2) {
                seed = seed * 1103515245 + 12345;
                int put = (seed >>> 8) % 10;
                refused += put == value ? 1 : 0;
                stamps += put == value ? 0 : 1;
                value = put;
            } else if (sort == 2) {
                refused += value < 0 ? 1 : 0;
                stamps += value < 0 ? 0 : 1;
                value = value == -2 ? -2 : -1;
            }
        }
        Check.is("31: 60", x.drawn(60, 5), 60);
        Check.is("13: STAMPS", x.now(2), stamps);
        Check.is("32: by 1", x.refused(1), refused);
        Check.is("32: by 2", x.refused(2), 0);
        Check.is("32: by 3", x.refused(3), 0);
        Check.is("32: another", x.refused(0), NONE);
        Check.is("32: another", x.refused(4), NONE);
        Check.is("31: refused", x.drawn(0, 5), NONE);
        Check.is("32: the latest above 0", x.refused(1), refused);
        x.odds(3, 8);
        Check.is("32: odds() is none", x.refused(1), refused);
    }

    private static void odds() {
        TreePeers x = Check.of(SMALL);
        int alike = 0;
        for (int i = 0; i < 20; i++) {
            x.drawn(20, Integer.MAX_VALUE - 3 + i);
            alike += x.now(4) == 1 ? 1 : 0;
            x.undo();
        }
        Check.is("33: odds", x.odds(20, Integer.MAX_VALUE - 3), alike);
        Check.is("33: all stays", x.now(2), 5);
        Check.is("33: all stays", x.peer(0, 0), 4);
        Check.is("33: 0", x.odds(0, 1), NONE);
        Check.is("33: 21", x.odds(21, 1), NONE);
        Check.is("33: one PEER", Check.of("key a;peer p;").odds(7, 1), 7);
        Check.is("33: no PEERS", Check.of("key a;").odds(7, 1), 7);
        Check.is("33: no KEYS", Check.of("peer a;peer b;").odds(7, 1), 7);
        Check.is("33: no KEYS, too many", Check.of("peer a;").odds(21, 1), NONE);
        TreePeers y = Check.of("page 12;key a;peer p;peer q;");
        int some = y.odds(20, 1);
        Check.is("33: some are, some are not", some > 0 && some < 20, true);
    }

    private static void books() {
        TreePeers x = Check.of(SMALL);
        Check.is("35: ahead of any", x.told(0), NONE);
        Check.feed(x, "put x d 1;");
        Check.is("34: 2", x.book(2), -1000);
        Check.is("34: -1", x.book(-1), -1000);
        Check.is("34: the tape stays", x.count(5), 10);
        Check.is("34: judged", x.book(0), NONE);
        Check.is("34: the tape is empty", x.count(5), 0);
        Check.is("34: all stays", x.now(2), 5);
        tells(x, 0, 1, 6, 3);
        Check.is("34: a FAULT", Check.book(x, 1, " put x d 1;put x q 1;"), -2 - 17);
        Check.is("34: nothing is lived", x.now(2), 5);
        tells(x, 0, 1, 6, 3);
        wrong(x, "put x a 5;", 0, 1);
        wrong(x, "put x a 6;drop x f;", 1, 11);
        wrong(x, "drop x a;drop x a;", 1, 11);
        wrong(x, "pull y z;", 0, 21);
        wrong(x, "heal y z;drop y a;pull z y;pull z y;", 3, 22);
        wrong(x, "pull x z;", 0, 23);
        wrong(x, "cut x y;cut z y;", 1, 31);
        wrong(x, "heal z y;heal y z;", 1, 41);
        Check.is("34: lived as far", Check.book(x, 1, "pull z x;pull z x;pull x z;put x a 1;"), 2);
        tells(x, 22, 2, 5, 2);
        Check.is("34: lived", x.now(0), 2);
        Check.is("34: lived", x.peer(2, 0), 4);
        Check.is("34: not behind", x.entry(0, 1, 0), 5);
        Check.is("34: lived", Check.book(x, 1, "put x a 1;drop y a;"), NONE);
        tells(x, 0, 2, 7, 3);
        Check.is("34: lived", x.entry(1, 1, 0), -1);
        Check.is("35: another", x.told(4), NONE);
        Check.is("35: another", x.told(-1), NONE);
        Check.cluster(x, "");
        tells(x, 0, 2, 7, 3);
        Check.is("34: empty", x.book(0), NONE);
        tells(x, 0, 0, 0, 0);
    }

    private static void wrong(TreePeers x, String text, int line, int why) {
        int before = x.now(2);
        Check.is("34: " + text, Check.book(x, 0, text), line);
        Check.is("35: why: " + text, x.told(0), why);
        Check.is("35: LINES: " + text, x.told(1), line);
        Check.is("34: all stays: " + text, x.now(2), before);
    }

    private static void tells(TreePeers x, int why, int lines, int stamps, int roots) {
        Check.is("35: why", x.told(0), why);
        Check.is("35: LINES", x.told(1), lines);
        Check.is("35: STAMPS", x.told(2), stamps);
        Check.is("35: ROOTS", x.told(3), roots);
    }

    /** KEYS: 0 e (3), 1 a (2), 2 c (1), 3 b (0), 4 d (0), 5 f (0). */
    private static void sentences() {
        TreePeers x = Check.of(SMALL);
        x.drop(0, 2);
        said(x, "torn", 1, 0, 1, 2, 3);
        said(x, "held x", 1, 0, 1, 3);
        said(x, "gone x", 1, 2);
        said(x, "held y", 1, 1);
        said(x, "gone y", 1);
        said(x, "level=0", 1, 3, 4, 5);
        said(x, "level>1", 1, 0, 1);
        said(x, "level<2", 1, 2, 3, 4, 5);
        said(x, "copies=0", 1, 4, 5);
        said(x, "copies>1", 1, 1);
        said(x, "copies=1", 1, 0, 2, 3);
        said(x, "stamp=6", 1, 2);
        said(x, "stamp>4", 1, 1, 2);
        said(x, "stamp<1", 1, 4, 5);
        said(x, "number<002", 1, 0, 1);
        said(x, "number=5", 1, 5);
        said(x, "number>999", 1);
        said(x, "not torn", 2, 4, 5);
        said(x, "not not torn", 3, 0, 1, 2, 3);
        said(x, "torn and level=0 or number=5", 3, 3, 5);
        said(x, "number=5 or torn and level=0", 3, 3, 5);
        said(x, "torn and (level=0 or number=5)", 4, 3);
        said(x, "not torn or number=0", 3, 0, 4, 5);
        said(x, "not(torn or number=4)", 4, 5);
        said(x, "not torn and number=0", 3);
    }

    private static void said(TreePeers x, String text, int ones, int... keys) {
        Check.is("36: " + text, Check.sentence(x, text), ones);
        Check.is("37: " + text, x.said(NONE), keys.length);
        for (int i = 0; i < keys.length; i++) {
            Check.is("37: " + text + " " + i, x.said(i), keys[i]);
        }
        Check.is("37: " + text, x.said(keys.length), NONE);
        Check.is("37: " + text, x.said(-2), NONE);
    }

    private static void manySentences() {
        TreePeers x = Check.of(SMALL);
        for (int i = 0; i < 30; i++) {
            Check.is("36: long", Check.sentence(x, "not(torn or number=4)and not not held x"), 7);
            Check.is("37: long", x.said(NONE), 0);
            Check.is("36: short", Check.sentence(x, "not held x and not number=4"), 4);
            Check.is("37: short", x.said(0), 5);
        }
    }

    private static void sentenceStays() {
        TreePeers x = Check.of(SMALL);
        Check.is("37: none so far", x.said(NONE), NONE);
        Check.is("37: none so far", x.said(0), NONE);
        Check.is("36: one", Check.sentence(x, "held x"), 1);
        Check.is("36: a FAULT", Check.sentence(x, "held nobody"), -1 - 5);
        Check.is("37: it stays", x.said(NONE), 4);
        x.put(0, 4, 1);
        Check.is("37: of what is so now", x.said(NONE), 5);
        Check.is("36: another", Check.sentence(x, "held y"), 1);
        x.undo();
        Check.is("19: undo() leaves it", x.said(NONE), 1);
        Check.is("4: a CLUSTER with a FAULT", Check.cluster(x, "key"), -1 - 3);
        Check.is("37: it stays", x.said(NONE), 1);
        Check.is("36: without KEYS", Check.sentence(Check.of("peer p;"), "torn"), 1);
        TreePeers y = Check.of("peer p;");
        Check.sentence(y, "torn");
        Check.is("37: without KEYS", y.said(NONE), 0);
        Check.is("37: without KEYS", y.said(0), NONE);
    }

    private static void images() {
        TreePeers x = Check.of(SMALL);
        Check.is("39: nothing kept", x.restore(0), false);
        Check.is("39: no such", x.restore(2), false);
        Check.is("39: no such", x.restore(-1), false);
        Check.is("38: no such", x.image(2), false);
        Check.is("38: no such", x.image(-1), false);
        Check.sentence(x, "held x");
        x.put(0, 4, 9);
        x.pull(2, 0);
        int root = x.root(0);
        Check.is("38: kept", x.image(1), true);
        Check.is("39: nothing kept in the other", x.restore(0), false);
        Check.is("38: image() leaves what can be undone", x.undo(), 1);
        x.offers(1, 0);
        x.tag(1);
        Check.cluster(x, "rule most;peer other;key a;");
        x.drawn(3, 3);
        Check.book(x, 0, "put other a 77;");
        Check.feed(x, "kept");
        Check.is("38: kept", x.image(0), true);
        x.put(0, 0, 500);
        Check.is("39: restored", x.restore(1), true);
        Check.is("39: CLUSTER", x.count(0), 6);
        Check.is("39: PEERS", x.count(1), 3);
        Check.is("39: rule", x.count(4), 0);
        Check.is("39: bits", x.count(2), 1);
        Check.is("39: page", x.count(3), 2);
        Check.is("39: ROOT", x.root(0), root);
        Check.is("39: PULLS", x.now(0), 1);
        Check.is("39: OFFERS", x.now(1), 2);
        Check.is("39: STAMPS", x.now(2), 6);
        Check.is("39: came", x.peer(2, 6), 2);
        Check.is("39: cut", x.peer(1, 4), 4);
        Check.is("39: SENTENCE", x.said(NONE), 5);
        Check.is("39: nothing can be undone", x.undo(), NONE);
        Check.is("39: the tape stays", x.count(5), 4);
        Check.is("39: offerAt() stays", x.offerAt(0), 3);
        Check.is("39: byteAt() stays", x.byteAt(0), 'y');
        Check.is("39: told() stays", x.told(1), 1);
        Check.is("39: refused() stays", x.refused(2), 0);
        x.drop(0, 4);
        Check.is("39: again", x.restore(1), true);
        Check.is("39: again", x.root(0), root);
        Check.is("39: the other", x.restore(0), true);
        Check.is("39: no SENTENCE", x.said(NONE), NONE);
        Check.is("39: rule", x.count(4), 1);
        Check.text("39: PEER", Check.tag(x, 0).substring(0, 5), "other");
        x.image(1);
        Check.is("38: kept anew", x.restore(1), true);
        Check.is("38: kept anew", x.count(1), 1);
    }

    private static void counts() {
        TreePeers x = Check.of(SMALL);
        Check.is("40: KEYS", x.count(0), 6);
        Check.is("40: PEERS", x.count(1), 3);
        Check.is("40: bits", x.count(2), 1);
        Check.is("40: page", x.count(3), 2);
        Check.is("40: rule", x.count(4), 0);
        Check.feed(x, "abc");
        Check.is("40: tape", x.count(5), 3);
        Check.is("40: another", x.count(6), NONE);
        Check.is("40: another", x.count(-1), NONE);
    }
}
