/** Each sentence of promises 1 to 40 that names a bound: at it, one below and above, empty and full, refused. */
public final class CallBoundsTest {
    private static final int NONE = -1;
    private static final int LEAST = Integer.MIN_VALUE;
    private static final int MOST = Integer.MAX_VALUE;
    /** LEVELS by 'bits 1': e 3, a 2, c 1, b 0, d 0, f 0. */
    private static final String SMALL =
        "bits 1;page 2;key e;key a;key c;key b;key d;key f;peer x;peer y;peer z;"
        + "has x a 5;has x b 6;has x c 7;has x e 8;has y a 5;cut y z;";
    private static final String LETTERS = "abcdefghijklmnopqrstuvwx";

    private CallBoundsTest() {
    }

    public static void main(String[] args) {
        Check.runEach(CallBoundsTest.class);
    }

    interface Ask {
        int of(TreePeers x);
    }

    /** Numbers that none of 'count' ones from 0 on has: one below, one above, and far off. */
    private static int[] beside(int count) {
        return new int[] {-1, -2, LEAST, LEAST + 1, count, count + 1, count + 4, count + 24, count + 32, count + 256, count + 65536, MOST};
    }

    /** 24 KEYS, 4 PEERS; the first one has all of them. */
    private static TreePeers full() {
        StringBuilder s = new StringBuilder("bits 1;page 12;peer ww;peer xx;peer yy;peer zz;");
        for (int k = 0; k < 24; k++) {
            char c = LETTERS.charAt(k);
            s.append("key ").append(c).append(";has ww ").append(c).append(' ').append(k).append(';');
        }
        return Check.of(s.toString());
    }

    /** Something of all that can be told, be undone, be kept; x - y and y - z are CUT, x dropped a, z pulled a and b. */
    private static TreePeers busy() {
        TreePeers x = Check.of(SMALL);
        x.drawn(9, 5);
        x.undo();
        x.put(0, 4, 9);
        x.pull(2, 0);
        x.drop(0, 1);
        x.image(1);
        x.cut(0, 1);
        x.offers(1, 0);
        x.tag(1);
        Check.sentence(x, "held x");
        Check.book(x, 0, "heal y z;heal y z;");
        Check.feed(x, "key");
        return x;
    }

    /** The busy one answers what is due, and all stays. */
    private static void stays(String what, int due, Ask ask) {
        Check.leaves(what, CallBoundsTest::busy, x -> Check.is(what, ask.of(x), due));
    }

    /** The busy one throws, and all stays. */
    private static void throwsAndStays(String what, Ask ask) {
        Check.leaves(what, CallBoundsTest::busy, x -> Check.noSuch(what, () -> ask.of(x)));
    }

    // ---- 1 to 6: the tape, the CLUSTER, FAULTS

    /** Promise 1: "A CLUSTER without PEERS; an empty tape." */
    static void newObjectIsEmpty() {
        TreePeers x = new TreePeers();
        int[] counts = {0, 0, 2, 4, 0, 0};
        int[] nows = {0, 0, 0, 0, 0};
        for (int what = 0; what < 6; what++) {
            Check.is("1: count", x.count(what), counts[what]);
        }
        for (int what = 0; what < 5; what++) {
            Check.is("1: now", x.now(what), nows[what]);
        }
        Check.is("1: no PEER", x.peer(0, 0), NONE);
        Check.is("1: no KEY", x.key(0, 0), NONE);
        Check.is("1: no byte to end", x.end(1), false);
        Check.is("1: all 0 bytes", x.end(0), true);
        Check.is("1: no SENTENCE", x.said(NONE), NONE);
        Check.is("1: nothing to undo", x.undo(), NONE);
        Check.is("1: nothing kept", x.restore(0) || x.restore(1), false);
    }

    /** Promise 1, by The public face: "public static final int NONE = -1;" */
    static void noneIsBelowZero() {
        Check.is("1: NONE", TreePeers.NONE, -1);
    }

    /** Promise 1, by What it is: "An object is used for at most 512 calls after it has been made; what later calls answer is free." */
    static void the512thCallAnswers() {
        TreePeers x = Check.of("key a;peer p;peer q;");
        int calls = 4;
        int puts = 0;
        while (calls < 511) {
            Check.is("14: PUT", x.put(0, 0, puts), 0);
            puts++;
            calls++;
        }
        Check.is("13: call 512", x.now(2), puts);
        TreePeers y = full();
        for (calls = 60; calls < 511; calls++) {
            y.drawn(60, calls);
        }
        Check.is("31: call 512", y.drawn(60, MOST), 60);
    }

    /** Promise 2: "Twenty bytes come behind the tape, of each number the highest first: how many it has;" */
    static void feedTheHighestFirst() {
        for (int at = 0; at < 40; at++) {
            for (int sign : new int[] {'#', 0, 127, 128, 255}) {
                int[] n = new int[10];
                for (int i = 0; i < 10; i++) {
                    n[i] = 0x20202020;
                }
                n[at / 4] ^= (0x20 ^ sign) << (24 - 8 * (at % 4));
                TreePeers x = new TreePeers();
                Check.is("2: 20", x.feed(n[0], n[1], n[2], n[3], n[4]), 20);
                Check.is("2: 40", x.feed(n[5], n[6], n[7], n[8], n[9]), 40);
                Check.is("4: at " + at, x.cluster(), -1 - at);
            }
        }
        TreePeers x = new TreePeers();
        x.feed(0x6b657920, 0x61626364, 0x6566673b, 0x70656572, 0x2078793b);
        Check.is("4: 'key abcdefg;peer xy;'", x.cluster(), 2);
        Check.text("29: xy", Check.tag(x, 0), "xy has 0 in 0");
    }

    /** Promise 2: "NONE, and none come, if it would have more than 940." */
    static void feedUpTo940() {
        TreePeers x = new TreePeers();
        for (int i = 1; i <= 47; i++) {
            Check.is("2: feed", x.feed(-1, 0, LEAST, MOST, 7), 20 * i);
        }
        Check.is("2: 960", x.feed(0, 0, 0, 0, 0), NONE);
        Check.is("40: none come", x.count(5), 940);
        int[] ends = {939, 930, 922, 921};
        for (int n : ends) {
            Check.is("3: end", x.end(n), true);
            Check.is("2: above 940", x.feed(0, 0, 0, 0, 0), NONE);
            Check.is("40: none come", x.count(5), n);
        }
        Check.is("3: end", x.end(920), true);
        Check.is("2: 940", x.feed(0, 0, 0, 0, 0), 940);
        Check.is("3: end", x.end(919), true);
        Check.is("2: 939", x.feed(0, 0, 0, 0, 0), 939);
        Check.is("2: 959", x.feed(0, 0, 0, 0, 0), NONE);
        Check.is("3: end", x.end(1), true);
        Check.is("2: 21", x.feed(0, 0, 0, 0, 0), 21);
    }

    /** Promise 3: "The tape has its first n bytes alone: true;" */
    static void endKeepsTheFirst() {
        TreePeers x = new TreePeers();
        Check.is("3: 0 of none", x.end(0), true);
        Check.feed(x, "key a;key b;key c;");
        Check.is("3: all", x.end(18), true);
        Check.is("40: all", x.count(5), 18);
        Check.is("3: one less", x.end(17), true);
        Check.is("40: one less", x.count(5), 17);
        Check.is("3: twelve", x.end(12), true);
        Check.feed(x, "peer p;");
        Check.is("4: the rest is gone", x.cluster(), 3);
        Check.is("40: KEYS", x.count(0), 2);
        Check.feed(x, "key a;");
        Check.is("3: none", x.end(0), true);
        Check.is("4: empty", x.cluster(), 0);
    }

    /** Promise 3: "false, if it has not so many, or n is below 0." */
    static void endOfTooMany() {
        TreePeers x = new TreePeers();
        Check.is("3: one of none", x.end(1), false);
        Check.is("3: -1 of none", x.end(-1), false);
        Check.feed(x, "key a;key b;");
        for (int n : new int[] {13, 14, 20, 32, 940, 941, MOST, -1, -2, LEAST, LEAST + 12, 12 + 65536, 12 + 256}) {
            Check.is("3: " + n, x.end(n), false);
            Check.is("40: the tape stays", x.count(5), 12);
        }
        Check.is("4: whole", x.cluster(), 2);
        Check.is("3: empty then", x.end(1), false);
    }

    /** Promise 4: "The tape (empty then, with a FAULT, too, here and below)" */
    static void tapeIsEmptyThen() {
        TreePeers x = new TreePeers();
        String[] clusters = {"", "key a;peer p;", "key a;key a;", " ".repeat(940)};
        for (String text : clusters) {
            Check.cluster(x, text);
            Check.is("4: empty behind a CLUSTER", x.count(5), 0);
        }
        for (int lives = 0; lives < 2; lives++) {
            for (String text : new String[] {"", "put p a 1;", "put p a 1;put p a 1;", "key", " ".repeat(940)}) {
                Check.book(x, lives, text);
                Check.is("34: empty behind a BOOK", x.count(5), 0);
            }
        }
        for (String text : new String[] {"", "torn", "key", " ".repeat(940)}) {
            Check.sentence(x, text);
            Check.is("36: empty behind a SENTENCE", x.count(5), 0);
        }
        Check.is("4: an empty tape is a CLUSTER", x.cluster(), 0);
        Check.is("40: without KEYS", x.count(0), 0);
    }

    /** Promise 4: "is the CLUSTER now: how many LINES;" */
    static void clusterTellsItsLines() {
        TreePeers x = new TreePeers();
        Check.is("4: none", Check.cluster(x, ""), 0);
        Check.is("4: one", Check.cluster(x, "key a;"), 1);
        StringBuilder s = new StringBuilder("bits 1;page 1;rule late;peer p;peer q;peer r;peer s;cut p q;cut p r;cut p s;cut q r;cut q s;cut r s;");
        for (char c : LETTERS.toCharArray()) {
            s.append("key ").append(c).append("a;has q ").append(c).append("a 1;");
        }
        Check.is("4: sixty-one", Check.cluster(x, s.toString()), 61);
        Check.is("40: KEYS now", x.count(0), 24);
        Check.is("40: PEERS now", x.count(1), 4);
        Check.is("9: ENTRIES now", x.peer(1, 0), 24);
        Check.is("4: without 'has', without 'cut'", Check.cluster(x, "peer p;peer q;peer r;peer s;key aa;"), 5);
        for (int p = 0; p < 4; p++) {
            Check.is("9: no ENTRIES", x.peer(p, 0), 0);
            Check.is("9: CUT from none", x.peer(p, 4), 0);
        }
        Check.is("14: the first STAMP", x.put(3, 0, 1), 0);
        Check.is("11: the first STAMP", x.entry(3, 0, 1), 1);
        Check.is("4: the same 'has' and 'cut' again", Check.cluster(x, "peer p;peer q;key k;has p k 1;cut p q;"), 5);
        Check.is("4: and again", Check.cluster(x, "peer p;peer q;key k;has p k 1;cut p q;"), 5);
        Check.is("4: one again", Check.cluster(x, "key a;"), 1);
        Check.is("40: KEYS now", x.count(0), 1);
        Check.is("40: PEERS now", x.count(1), 0);
        Check.is("9: no PEER", x.peer(1, 0), NONE);
    }

    /** Promise 4: "-1 less the place of a FAULT: it stays." */
    static void clusterWithFaultStays() {
        String[] texts = {"#", " #", "key k;peer p;has p k 1", " ".repeat(899) + "#", " ".repeat(901), "bits 4;page 9;rule most;key a;bits 4;"};
        int[] places = {0, 1, 22, 899, 900, 30};
        String due = Dump.stateOf(busy());
        for (int i = 0; i < texts.length; i++) {
            TreePeers x = busy();
            x.end(0);
            Check.is("4: -1 less the place", Check.cluster(x, texts[i]), -1 - places[i]);
            Check.text("4: it stays", Dump.stateOf(x), due);
            Check.is("19: what can be undone stays", x.undo(), 3);
        }
    }

    /** Promise 5: "The kind of the FAULT of the latest cluster(), book() or sentence() (a book() of -1000 leaves it);" */
    static void faultOfTheLatest() {
        TreePeers x = Check.of("key a;peer p;");
        Check.cluster(x, "bits 9;");
        Check.is("5: of a CLUSTER", x.fault(), 2);
        Check.feed(x, "put p a 1;");
        for (int lives : new int[] {-1, 2, LEAST, MOST}) {
            Check.is("34: another lives", x.book(lives), -1000);
            Check.is("5: left", x.fault(), 2);
        }
        x.end(0);
        Check.book(x, 0, "put q a 1;");
        Check.is("5: of a BOOK", x.fault(), 3);
        Check.sentence(x, "torn or");
        Check.is("5: of a SENTENCE", x.fault(), 1);
        Check.book(x, 1, "drop p a;".repeat(41));
        Check.is("5: of a BOOK", x.fault(), 4);
        x.put(0, 0, 1);
        x.undo();
        x.image(0);
        x.restore(0);
        Check.is("5: other calls leave it", x.fault(), 4);
    }

    /** Promise 5: "0 without one and ahead of any." */
    static void faultWithoutOne() {
        TreePeers x = new TreePeers();
        Check.is("5: ahead of any", x.fault(), 0);
        Check.is("34: -1000", x.book(7), -1000);
        Check.is("5: still ahead of any", x.fault(), 0);
        Check.cluster(x, "#");
        Check.is("5: one", x.fault(), 1);
        Check.cluster(x, "key a;peer p;");
        Check.is("5: without one", x.fault(), 0);
        Check.cluster(x, "#");
        Check.book(x, 0, "drop p a;");
        Check.is("5: a WRONG LINE is none", x.fault(), 0);
        Check.book(x, 0, "#");
        Check.sentence(x, "torn");
        Check.is("5: without one", x.fault(), 0);
    }

    /** Promise 6: "The LINE (from 0) in which that FAULT was (a SENTENCE: 0; so, too, at the end of a text: how many LINES are ahead);" */
    static void faultLineFromZero() {
        TreePeers x = Check.of("key a;peer p;");
        Check.cluster(x, "key a key b;");
        Check.is("6: the first", x.faultLine(), 0);
        Check.cluster(x, "key a;key a;");
        Check.is("6: the second", x.faultLine(), 1);
        Check.cluster(x, "key a;key b;key");
        Check.is("6: at the end, amid a LINE", x.faultLine(), 2);
        Check.cluster(x, "key a;key b;" + " ".repeat(900));
        Check.is("6: at the most bytes", x.faultLine(), 2);
        Check.book(x, 1, "drop p a;".repeat(40) + "#");
        Check.is("6: behind forty", x.faultLine(), 40);
        Check.book(x, 1, "drop p a;".repeat(39) + "drop p a");
        Check.is("6: at the end, in the fortieth", x.faultLine(), 39);
        Check.book(x, 1, "drop");
        Check.is("6: at the end, in the first", x.faultLine(), 0);
        Check.sentence(x, "");
        Check.is("6: a SENTENCE", x.faultLine(), 0);
        Check.sentence(x, "torn or held\n\nq");
        Check.is("6: a SENTENCE", x.faultLine(), 0);
    }

    /** Promise 6: "NONE, if the latest of these calls had none, and ahead of any (a book() of -1000 leaves it)." */
    static void faultLineWithoutOne() {
        TreePeers x = new TreePeers();
        Check.is("6: ahead of any", x.faultLine(), NONE);
        x.book(2);
        Check.is("6: still ahead of any", x.faultLine(), NONE);
        Check.cluster(x, "key a;#");
        Check.is("6: one", x.faultLine(), 1);
        x.book(-1);
        Check.is("6: left", x.faultLine(), 1);
        Check.cluster(x, "key a;peer p;");
        Check.is("6: none", x.faultLine(), NONE);
        Check.cluster(x, "#");
        Check.book(x, 1, "drop p a;");
        Check.is("6: none", x.faultLine(), NONE);
        Check.sentence(x, "#");
        Check.is("6: one", x.faultLine(), 0);
        Check.sentence(x, "torn");
        Check.is("6: none", x.faultLine(), NONE);
    }

    // ---- 7 to 13: how all is

    /** Promise 7: "Of a KEY: 0 LEVEL, 1 its place in the order of all KEYS (from 0), 2 PEERS that have an ENTRY of it, as bits." */
    static void keysTold() {
        TreePeers x = full();
        Check.is("7: LEVEL of m", x.key(12, 0), 5);
        Check.is("7: LEVEL of x", x.key(23, 0), 0);
        Check.is("7: the first place", x.key(0, 1), 0);
        Check.is("7: the last place", x.key(23, 1), 23);
        Check.is("7: one PEER", x.key(23, 2), 1);
        int[] bits = {9, 13, 15};
        int[] peers = {3, 2, 1};
        for (int i = 0; i < 3; i++) {
            x.put(peers[i], 23, 7);
            Check.is("7: PEERS", x.key(23, 2), bits[i]);
        }
        x.drop(1, 23);
        Check.is("7: a GONE ENTRY is one", x.key(23, 2), 15);
        Check.is("7: no PEERS", Check.of("key a;peer p;").key(0, 2), 0);
    }

    /** Promise 7: "NONE: no such ones." */
    static void noSuchKeys() {
        TreePeers x = full();
        for (int what = 0; what < 3; what++) {
            for (int k : beside(24)) {
                Check.is("7: KEY " + k, x.key(k, what), NONE);
            }
            Check.is("7: the last one", x.key(23, what) != NONE, true);
            Check.is("7: without KEYS", new TreePeers().key(0, what), NONE);
        }
        for (int what : beside(3)) {
            Check.is("7: what " + what, x.key(0, what), NONE);
        }
    }

    /** Promise 8: "DIGEST of a KEY. NoSuchElementException: no such one." */
    static void noSuchDigests() {
        TreePeers x = full();
        Check.is("8: the first", x.digest(0), -468852428);
        Check.is("8: the last", x.digest(23), -49436001);
        for (int k : beside(24)) {
            Check.noSuch("8: KEY " + k, () -> x.digest(k));
        }
        Check.noSuch("8: without KEYS", () -> new TreePeers().digest(0));
        throwsAndStays("8: one above", y -> y.digest(6));
    }

    /** Promise 9: "Of a PEER: 0 ENTRIES, 1 GONE ones of these, 2 NODES, 3 LEVEL of the first NODE (NONE)," */
    static void peersFromEmptyToFull() {
        TreePeers x = full();
        int[] all = {24, 0, 24, 5};
        int[] none = {0, 0, 0, NONE};
        for (int what = 0; what < 4; what++) {
            Check.is("9: full", x.peer(0, what), all[what]);
            Check.is("9: empty", x.peer(3, what), none[what]);
        }
        for (int k = 0; k < 24; k++) {
            x.drop(0, k);
            Check.is("9: GONE", x.peer(0, 1), k + 1);
            Check.is("9: ENTRIES stay", x.peer(0, 0), 24);
        }
        x.put(3, 1, 1);
        Check.is("9: LEVEL 0", x.peer(3, 3), 0);
    }

    /** Promise 9: "4 PEERS from which it is CUT, 5 that have the same ROOT (itself, too), as bits each," */
    static void peersAsBits() {
        TreePeers x = Check.of("key a;peer p;peer q;peer r;peer s;");
        for (int p = 0; p < 4; p++) {
            Check.is("9: CUT from none", x.peer(p, 4), 0);
            Check.is("9: all alike, empty", x.peer(p, 5), 15);
        }
        for (int p = 0; p < 4; p++) {
            for (int q = 0; q < p; q++) {
                x.cut(p, q);
            }
            x.put(p, 0, 1);
        }
        for (int p = 0; p < 4; p++) {
            Check.is("9: CUT from all others", x.peer(p, 4), 15 ^ 1 << p);
            Check.is("9: alone", x.peer(p, 5), 1 << p);
        }
        x.heal(3, 0);
        x.pull(3, 0);
        Check.is("9: alone, as its STAMP is greater", x.peer(3, 5), 8);
        x.pull(0, 3);
        Check.is("9: the first and the last", x.peer(3, 5), 9);
        Check.is("9: the first and the last", x.peer(0, 5), 9);
        Check.is("9: without another PEER", Check.of("peer p;").peer(0, 5), 1);
    }

    /** Promise 9: "6 how many OFFERS came to it so far." */
    static void offersThatCame() {
        TreePeers x = full();
        int[] came = {12, 24, 24};
        for (int i = 0; i < 3; i++) {
            Check.is("16: PULLED", x.pull(1, 0), i < 2 ? 0 : 2);
            Check.is("9: came to it", x.peer(1, 6), came[i]);
            Check.is("9: none from it", x.peer(0, 6), 0);
        }
        x.pulls(2, 0);
        Check.is("9: pulls() brings none", x.peer(2, 6), 0);
        Check.book(x, 0, "pull yy ww;");
        Check.is("9: a judged BOOK brings none", x.peer(2, 6), 0);
        Check.book(x, 1, "pull yy ww;");
        Check.is("9: a lived one does", x.peer(2, 6), 12);
        x.undo();
        Check.is("9: undone", x.peer(2, 6), 0);
        x.put(0, 0, 500);
        x.pull(1, 0);
        Check.is("9: again", x.peer(1, 6), 25);
    }

    /** Promise 9: "NONE, too: no such ones." */
    static void noSuchPeers() {
        TreePeers x = full();
        for (int what = 0; what < 7; what++) {
            for (int p : beside(4)) {
                Check.is("9: PEER " + p, x.peer(p, what), NONE);
            }
            Check.is("9: without PEERS", Check.of("key a;").peer(0, what), NONE);
        }
        Check.is("9: the last one", x.peer(3, 6), 0);
        for (int what : beside(7)) {
            Check.is("9: what " + what, x.peer(0, what), NONE);
        }
    }

    /** Promise 10: "ROOT of a PEER. NoSuchElementException: no such one." */
    static void noSuchRoots() {
        TreePeers x = full();
        Check.is("10: the first", x.root(0), x.node(0, 0, 6));
        Check.is("10: the last", x.root(3), 0);
        for (int p : beside(4)) {
            Check.noSuch("10: PEER " + p, () -> x.root(p));
        }
        Check.noSuch("10: without PEERS", () -> new TreePeers().root(0));
        throwsAndStays("10: one above", y -> y.root(3));
    }

    /** Promise 11: "Of the ENTRY of a KEY at a PEER: 0 its VALUE (GONE: -1), 1 its STAMP, 2 its DIGEST." */
    static void entriesTold() {
        TreePeers x = full();
        Check.is("11: VALUE 0", x.entry(0, 0, 0), 0);
        Check.is("11: VALUE 23", x.entry(0, 23, 0), 23);
        Check.is("11: STAMP 1", x.entry(0, 0, 1), 1);
        Check.is("11: STAMP 24", x.entry(0, 23, 1), 24);
        x.drop(0, 23);
        Check.is("11: GONE", x.entry(0, 23, 0), -1);
        Check.is("11: STAMP 25", x.entry(0, 23, 1), 25);
        int digest = x.entry(0, 23, 2);
        x.put(0, 23, 999);
        x.drop(0, 23);
        Check.is("11: another STAMP, another DIGEST", x.entry(0, 23, 2) != digest, true);
        x.undo();
        x.undo();
        Check.is("11: the same again", x.entry(0, 23, 2), digest);
    }

    /** Promise 11: "NoSuchElementException: there is none, no such ones." */
    static void noSuchEntries() {
        TreePeers x = full();
        for (int what = 0; what < 3; what++) {
            int w = what;
            Check.noSuch("11: there is none", () -> x.entry(1, 0, w));
            Check.noSuch("11: there is none", () -> x.entry(3, 23, w));
            for (int p : beside(4)) {
                Check.noSuch("11: PEER " + p, () -> x.entry(p, 0, w));
            }
            for (int k : beside(24)) {
                Check.noSuch("11: KEY " + k, () -> x.entry(0, k, w));
            }
        }
        for (int what : beside(3)) {
            Check.noSuch("11: what " + what, () -> x.entry(0, 0, what));
        }
        throwsAndStays("11: there is none", y -> y.entry(1, 0, 0));
    }

    /** Promise 12: "Of NODE i of a PEER: 0 LEVEL, 1 how many KEYS are in it, 2 the first one, 3 the last one, 4 how many NODES are directly below it, 5 the NODE above it (NONE: the first one), 6 its DIGEST." */
    static void nodesTold() {
        TreePeers x = Check.of("bits 4;peer p;key d;key b;key m;has p b 1;has p d 2;");
        int[] leaf = {0, 2, 1, 0, 0, NONE};
        for (int what = 0; what < 6; what++) {
            Check.is("12: one NODE, what " + what, x.node(0, 0, what), leaf[what]);
        }
        int digest = x.node(0, 0, 6);
        x.put(0, 2, 3);
        int[] top = {1, 1, 2, 2, 1, NONE};
        int[] below = {0, 2, 1, 0, 0, 0};
        for (int what = 0; what < 6; what++) {
            Check.is("12: the first, what " + what, x.node(0, 0, what), top[what]);
            Check.is("12: below, what " + what, x.node(0, 1, what), below[what]);
        }
        Check.is("12: its DIGEST stays", x.node(0, 1, 6), digest);
        Check.is("12: ROOT", x.node(0, 0, 6), x.root(0));
    }

    /** Promise 12: "NoSuchElementException: no such ones." */
    static void noSuchNodes() {
        TreePeers x = full();
        for (int what = 0; what < 7; what++) {
            int w = what;
            Check.is("12: the last one", x.node(0, 23, 1), 1);
            Check.noSuch("12: no NODES", () -> x.node(1, 0, w));
            for (int i : beside(24)) {
                Check.noSuch("12: NODE " + i, () -> x.node(0, i, w));
            }
            for (int p : beside(4)) {
                Check.noSuch("12: PEER " + p, () -> x.node(p, 0, w));
            }
        }
        for (int what : beside(7)) {
            Check.noSuch("12: what " + what, () -> x.node(0, 0, what));
        }
        throwsAndStays("12: no NODES there", y -> y.node(1, 1, 0));
    }

    /** Promise 13: "0 PULLS that were done so far, 1 OFFERS that came by them, 2 STAMPS that were given," */
    static void nowCounts() {
        TreePeers x = full();
        int[] due = {0, 0, 24};
        for (int what = 0; what < 3; what++) {
            Check.is("13: so far", x.now(what), due[what]);
        }
        x.pull(0, 1);
        Check.is("13: a refused PULL is none", x.now(0), 0);
        x.pull(1, 0);
        Check.is("13: one PULL", x.now(0), 1);
        Check.is("13: twelve OFFERS", x.now(1), 12);
        x.pull(2, 1);
        Check.is("13: two PULLS", x.now(0), 2);
        Check.is("13: of all PEERS", x.now(1), 24);
        Check.is("13: no STAMP is given by them", x.now(2), 24);
        x.put(0, 0, 0);
        x.drop(3, 0);
        Check.is("13: none by what is refused", x.now(2), 24);
        x.drop(0, 0);
        Check.is("13: one more", x.now(2), 25);
        x.fresh(0, 1, 500);
        x.pulls(0, 1);
        x.odds(3, 1);
        Check.is("13: none by asking", x.now(2) + x.now(0), 27);
        x.undo();
        Check.is("13: undone", x.now(2), 24);
        Check.cluster(x, "key a;");
        Check.is("13: of a new CLUSTER", x.now(0) + x.now(1) + x.now(2), 0);
    }

    /** Promise 13: "3 KEYS that are torn (two PEERS have not the same of it), as bits, 4 how many different ROOTS there are (0 without PEERS)." */
    static void nowTornAndRoots() {
        TreePeers x = full();
        Check.is("13: all torn", x.now(3), (1 << 24) - 1);
        Check.is("13: two ROOTS", x.now(4), 2);
        for (int p = 1; p < 4; p++) {
            x.pull(p, 0);
            x.pull(p, 0);
        }
        Check.is("13: none torn", x.now(3), 0);
        Check.is("13: one ROOT", x.now(4), 1);
        x.put(3, 23, 5);
        Check.is("13: the last KEY torn", x.now(3), 1 << 23);
        Check.is("13: two ROOTS", x.now(4), 2);
        x.put(2, 0, 5);
        Check.is("13: the first, too", x.now(3), 1 << 23 | 1);
        Check.is("13: three ROOTS", x.now(4), 3);
        x.drop(1, 23);
        Check.is("13: four ROOTS", x.now(4), 4);
        Check.is("13: without PEERS", Check.of("key a;").now(4), 0);
        Check.is("13: without PEERS", Check.of("key a;").now(3), 0);
        Check.is("13: one PEER", Check.of("key a;peer p;has p a 1;").now(4), 1);
        Check.is("13: one PEER", Check.of("key a;peer p;has p a 1;").now(3), 0);
        Check.is("13: without KEYS", Check.of("peer p;peer q;").now(4), 1);
    }

    /** Promise 13: "NONE for another what." */
    static void noSuchNow() {
        TreePeers x = full();
        for (int what : beside(5)) {
            Check.is("13: what " + what, x.now(what), NONE);
            Check.is("13: what " + what, new TreePeers().now(what), NONE);
        }
    }

    // ---- 14 to 19: deeds

    /** Promise 14: "A VALUE (0 to 999) of a KEY is PUT at a PEER: 0, or why not;" */
    static void putOfZeroTo999() {
        TreePeers x = full();
        for (int value : new int[] {0, 1, 998, 999}) {
            Check.is("14: " + value, x.put(3, 23, value), 0);
            Check.is("11: " + value, x.entry(3, 23, 0), value);
            Check.is("14: it has it", x.put(3, 23, value), 1);
        }
        stays("14: it has it", 1, y -> y.put(0, 3, 6));
    }

    /** Promise 14: "NONE: no such ones." */
    static void putOfNoSuch() {
        for (int value : new int[] {-1, 1000, 1001, -999, LEAST, MOST, 65536 + 5, 256 + 999}) {
            stays("14: VALUE " + value, NONE, x -> x.put(0, 0, value));
        }
        for (int p : beside(3)) {
            stays("14: PEER " + p, NONE, x -> x.put(p, 0, 1));
        }
        for (int k : beside(6)) {
            stays("14: KEY " + k, NONE, x -> x.put(0, k, 1));
        }
        Check.is("14: full, one above", full().put(4, 0, 1), NONE);
        Check.is("14: full, one above", full().put(0, 24, 1), NONE);
        Check.is("14: without any", new TreePeers().put(0, 0, 0), NONE);
    }

    /** Promise 15: "A KEY is DROPPED at a PEER: 0, or why not; NONE: no such ones." */
    static void dropOfSuchAndNoSuch() {
        TreePeers x = full();
        Check.is("15: the last KEY", x.drop(0, 23), 0);
        Check.is("15: GONE", x.drop(0, 23), 1);
        Check.is("15: none at the last PEER", x.drop(3, 23), 1);
        stays("15: a GONE one", 1, y -> y.drop(0, 1));
        stays("15: none", 1, y -> y.drop(0, 5));
        for (int p : beside(3)) {
            stays("15: PEER " + p, NONE, y -> y.drop(p, 0));
        }
        for (int k : beside(6)) {
            stays("15: KEY " + k, NONE, y -> y.drop(0, k));
        }
        Check.is("15: full, one above", full().drop(4, 0), NONE);
        Check.is("15: full, one above", full().drop(0, 24), NONE);
        Check.is("15: without any", new TreePeers().drop(0, 0), NONE);
    }

    /** Promise 16: "a PULLS from b: 0, or why not; NONE: alike, no such ones." */
    static void pullOfTwo() {
        Check.is("16: the last from the first", full().pull(3, 0), 0);
        stays("16: CUT", 1, x -> x.pull(0, 1));
        stays("16: CUT", 1, x -> x.pull(1, 0));
        stays("16: no OFFERS", 3, x -> x.pull(0, 2));
        Check.leaves("16: like ROOTS", () -> Check.of("key a;peer p;peer q;"), x -> Check.is("16: like ROOTS", x.pull(0, 1), 2));
        twoPeers("16", TreePeers::pull);
    }

    /** Promise 17: "Two PEERS are CUT: 0, or why not; NONE: alike, no such ones." */
    static void cutOfTwo() {
        TreePeers x = full();
        Check.is("17: the first and the last", x.cut(0, 3), 0);
        Check.is("17: they are", x.cut(3, 0), 1);
        stays("17: they are", 1, y -> y.cut(2, 1));
        twoPeers("17", TreePeers::cut);
    }

    /** Promise 18: "They are HEALED: 0, or why not; NONE: alike, no such ones." */
    static void healOfTwo() {
        TreePeers x = full();
        Check.is("18: not CUT", x.heal(3, 0), 1);
        x.cut(0, 3);
        Check.is("18: CUT", x.heal(3, 0), 0);
        stays("18: not CUT", 1, y -> y.heal(0, 2));
        twoPeers("18", TreePeers::heal);
    }

    interface OfTwo {
        int of(TreePeers x, int a, int b);
    }

    /** NONE of alike ones and where one of two is none of three, or of four; all stays. */
    private static void twoPeers(String what, OfTwo call) {
        for (int p = 0; p < 3; p++) {
            int q = p;
            stays(what + ": alike " + p, NONE, x -> call.of(x, q, q));
        }
        for (int p : beside(3)) {
            stays(what + ": first " + p, NONE, x -> call.of(x, p, 1));
            stays(what + ": second " + p, NONE, x -> call.of(x, 1, p));
            stays(what + ": both " + p, NONE, x -> call.of(x, p, p));
        }
        Check.is(what + ": full, alike", call.of(full(), 3, 3), NONE);
        Check.is(what + ": full, one above", call.of(full(), 4, 3), NONE);
        Check.is(what + ": full, one above", call.of(full(), 3, 4), NONE);
        Check.is(what + ": without PEERS", call.of(new TreePeers(), 0, 1), NONE);
        Check.is(what + ": one PEER", call.of(Check.of("peer p;"), 0, 1), NONE);
    }

    /** Promise 19: "The latest of put(), drop(), pull(), cut(), heal() that was done," */
    static void undoOfEach() {
        for (int left = 4; left >= 0; left--) {
            TreePeers x = Check.of(SMALL);
            for (int d = 0; d < 5; d++) {
                Check.is("19: done", deed(x, d), 0);
            }
            x.put(0, 4, 9);
            x.drop(0, 5);
            x.pull(1, 0);
            x.cut(1, 0);
            x.heal(1, 2);
            x.put(9, 9, 9);
            for (int d = 4; d >= left; d--) {
                Check.is("19: what was refused is none", x.undo(), d);
            }
            TreePeers ahead = Check.of(SMALL);
            for (int d = 0; d < left; d++) {
                deed(ahead, d);
            }
            Check.text("19: as ahead of deed " + left, Dump.stateOf(x), Dump.stateOf(ahead));
            Check.is("19: how many more", x.undo(), left - 1);
        }
    }

    private static int deed(TreePeers x, int which) {
        switch (which) {
            case 0:
                return x.put(0, 4, 9);
            case 1:
                return x.drop(0, 1);
            case 2:
                return x.pull(2, 0);
            case 3:
                return x.cut(0, 1);
            default:
                return x.heal(1, 2);
        }
    }

    /** Promise 19: "drawn() above 0, a BOOK of which some LINE was lived is undone:" */
    static void undoOfDrawnAndBooks() {
        TreePeers x = Check.of(SMALL);
        String due = Dump.stateOf(x);
        x.drawn(1, 3);
        Check.is("19: drawn() of 1", x.undo(), 0);
        Check.text("19: as ahead of it", Dump.stateOf(x), due);
        x.drawn(0, 3);
        x.drawn(61, 3);
        Check.book(x, 0, "put x d 1;");
        Check.book(x, 1, "");
        Check.book(x, 1, "put x a 5;put x d 1;");
        Check.book(x, 1, "put x d 1;put");
        x.book(2);
        Check.is("19: none of these", x.undo(), NONE);
        Check.book(x, 1, "put x d 1;");
        Check.is("19: one LINE", x.undo(), 0);
        Check.book(x, 1, "put x d 1;drop x a;heal y z;heal y z;");
        Check.is("19: three LINES are one", x.undo(), 0);
        Check.text("19: as ahead of it", Dump.stateOf(x), due);
        TreePeers y = Check.of("peer p;");
        y.drawn(5, 5);
        Check.is("19: drawn() of 0", y.undo(), NONE);
    }

    /** Promise 19: "how many more can be (8 at most are kept); NONE: none is." */
    static void undoOfEight() {
        for (int deeds = 0; deeds <= 20; deeds++) {
            TreePeers x = Check.of("key a;peer p;peer q;");
            for (int i = 0; i < deeds; i++) {
                x.put(0, 0, i);
                x.put(0, 0, i);
                x.drop(1, 0);
                x.heal(0, 1);
            }
            int kept = Math.min(deeds, 8);
            for (int i = 1; i <= kept; i++) {
                Check.is("19: of " + deeds, x.undo(), kept - i);
                Check.is("13: STAMPS", x.now(2), deeds - i);
            }
            Check.is("19: no more of " + deeds, x.undo(), NONE);
            Check.is("13: STAMPS", x.now(2), deeds - kept);
        }
        Check.is("19: a new object", new TreePeers().undo(), NONE);
        TreePeers x = Check.of("key a;peer p;");
        x.put(0, 0, 1);
        x.put(0, 0, 2);
        x.undo();
        x.put(0, 0, 3);
        Check.is("19: one ahead of the latest", x.undo(), 1);
        Check.is("11: as it was", x.entry(0, 0, 0), 1);
        Check.is("19: the first", x.undo(), 0);
        Check.noSuch("11: as it was", () -> x.entry(0, 0, 0));
    }

    // ---- 20 to 28: two PEERS, FRESH, PATH, fractions

    /** Promise 20: "How many NODES of a PEER are VISITED against another one; NONE: alike, no such ones." */
    static void visitsOfTwo() {
        TreePeers x = full();
        Check.is("20: all of the first", x.visits(0, 3), 24);
        Check.is("20: none of the last", x.visits(3, 0), 0);
        Check.is("20: both empty", x.visits(3, 2), 0);
        x.pull(3, 0);
        x.pull(3, 0);
        Check.is("20: like ones", x.visits(0, 3), 0);
        twoPeers("20", TreePeers::visits);
        stays("20: x against y", 5, y -> y.visits(0, 1));
    }

    /** Promise 21: "KEYS of which two PEERS have not the same ENTRY (one has none, too), as bits; NONE: alike, no such ones." */
    static void differsOfTwo() {
        TreePeers x = full();
        Check.is("21: all 24", x.differs(0, 3), (1 << 24) - 1);
        Check.is("21: the other way", x.differs(3, 0), (1 << 24) - 1);
        Check.is("21: both have none", x.differs(3, 2), 0);
        x.pull(3, 0);
        x.pull(3, 0);
        Check.is("21: all alike", x.differs(0, 3), 0);
        x.put(3, 23, 23);
        Check.is("14: refused", x.differs(0, 3), 0);
        x.put(3, 23, 5);
        x.put(3, 23, 23);
        Check.is("21: the same VALUE, another STAMP", x.differs(0, 3), 1 << 23);
        x.drop(3, 0);
        Check.is("21: GONE", x.differs(3, 0), 1 << 23 | 1);
        x.drop(0, 0);
        Check.is("21: both GONE, by other STAMPS", x.differs(3, 0), 1 << 23 | 1);
        Check.is("21: one has none", x.differs(3, 1), (1 << 24) - 1);
        twoPeers("21", TreePeers::differs);
    }

    /** Promise 22: "How many OFFERS b has for a; NONE: alike, no such ones." */
    static void offersOfTwo() {
        TreePeers x = full();
        Check.is("22: all of the first", x.offers(3, 0), 24);
        Check.is("22: none of the last", x.offers(0, 3), 0);
        Check.is("22: both empty", x.offers(1, 2), 0);
        x.cut(3, 0);
        Check.is("22: though they are CUT", x.offers(3, 0), 24);
        x.heal(3, 0);
        x.pull(3, 0);
        Check.is("22: the rest", x.offers(3, 0), 12);
        twoPeers("22", TreePeers::offers);
    }

    /** Promise 23: "The KEY of the k-th of them (from 0), by the latest offers() that was not NONE;" */
    static void offersByTheLatest() {
        TreePeers x = full();
        x.offers(3, 0);
        for (int k = 0; k < 24; k++) {
            Check.is("23: from 0", x.offerAt(k), k);
        }
        x.offers(0, 0);
        x.offers(4, 0);
        Check.is("23: a NONE leaves them", x.offerAt(23), 23);
        x.pull(3, 0);
        x.undo();
        Check.cluster(x, "key b;key a;peer p;peer q;has p a 1;");
        Check.is("23: by the latest offers()", x.offerAt(23), 23);
        Check.is("22: another", x.offers(1, 0), 1);
        Check.is("23: its KEY", x.offerAt(0), 1);
        Check.is("23: no second", x.offerAt(1), NONE);
    }

    /** Promise 23: "NONE: none such, or ahead of any." */
    static void noSuchOffers() {
        TreePeers x = full();
        for (int k : beside(0)) {
            Check.is("23: ahead of any", x.offerAt(k), NONE);
        }
        x.offers(3, 0);
        for (int k : beside(24)) {
            Check.is("23: " + k, x.offerAt(k), NONE);
        }
        x.offers(0, 3);
        for (int k : beside(0)) {
            Check.is("23: of none", x.offerAt(k), NONE);
        }
    }

    /** Promise 24: "FRESH of a VALUE (0 to 999) of a KEY at a PEER; NONE: no such ones." */
    static void freshOfZeroTo999() {
        stays("24: 0", 1, x -> x.fresh(0, 0, 0));
        stays("24: 999", 1, x -> x.fresh(0, 0, 999));
        stays("24: it has it", 0, x -> x.fresh(0, 0, 8));
        for (int value : new int[] {-1, 1000, 1001, LEAST, MOST, 65536}) {
            stays("24: VALUE " + value, NONE, x -> x.fresh(0, 0, value));
        }
        for (int p : beside(3)) {
            stays("24: PEER " + p, NONE, x -> x.fresh(p, 0, 1));
        }
        for (int k : beside(6)) {
            stays("24: KEY " + k, NONE, x -> x.fresh(0, k, 1));
        }
        Check.is("24: full, the last", full().fresh(3, 23, 999), 1);
        Check.is("24: full, one above", full().fresh(4, 0, 1), NONE);
        Check.is("24: full, one above", full().fresh(0, 24, 1), NONE);
        Check.is("24: without any", new TreePeers().fresh(0, 0, 0), NONE);
    }

    /** Promise 25: "PULLS of two PEERS: how many (0: their ROOTS are alike); NONE: they are CUT, not in 100, alike, no such ones." */
    static void pullsOfTwo() {
        TreePeers x = full();
        Check.is("25: their ROOTS are alike", x.pulls(2, 3), 0);
        Check.is("25: two pages, in turn", x.pulls(3, 0), 3);
        x.cut(0, 3);
        Check.is("25: CUT", x.pulls(3, 0), NONE);
        Check.is("25: CUT", x.pulls(0, 3), NONE);
        x.heal(0, 3);
        Check.is("25: HEALED", x.pulls(0, 3), 4);
        x.cut(2, 3);
        Check.is("25: CUT, though their ROOTS are alike", x.pulls(2, 3), NONE);
        stays("25: CUT", NONE, y -> y.pulls(0, 1));
        stays("25: not CUT", 4, y -> y.pulls(0, 2));
        twoPeers("25", TreePeers::pulls);
    }

    /** Promise 26: "PATH of a KEY at a PEER: NODES; NONE: it has no ENTRY of it, no such ones." */
    static void pathOfSuchAndNoSuch() {
        TreePeers x = full();
        Check.is("26: m is in the first NODE", x.path(0, 12), 1);
        Check.is("26: x", x.path(0, 23), 4);
        Check.is("26: b", x.path(0, 1), 5);
        x.drop(0, 1);
        Check.is("26: a GONE ENTRY has one", x.path(0, 1), 5);
        Check.is("26: no ENTRY", x.path(3, 23), NONE);
        for (int p : beside(4)) {
            Check.is("26: PEER " + p, x.path(p, 0), NONE);
        }
        for (int k : beside(24)) {
            Check.is("26: KEY " + k, x.path(0, k), NONE);
        }
        Check.is("26: without any", new TreePeers().path(0, 0), NONE);
        stays("26: no ENTRY", NONE, y -> y.path(1, 0));
    }

    /** Promise 27: "MEAN of a PEER. NoSuchElementException: it has no ENTRY, no such ones." */
    static void meanOfSuchAndNoSuch() {
        TreePeers x = full();
        for (int what = 0; what < 2; what++) {
            int w = what;
            Check.is("27: 24 by 24", x.mean(0, what), 1);
            Check.noSuch("27: no ENTRY", () -> x.mean(3, w));
            for (int p : beside(4)) {
                Check.noSuch("27: PEER " + p, () -> x.mean(p, w));
            }
            Check.noSuch("27: without PEERS", () -> new TreePeers().mean(0, w));
        }
        for (int what : beside(2)) {
            Check.noSuch("27: what " + what, () -> x.mean(0, what));
        }
        x.put(3, 0, 0);
        Check.is("27: one ENTRY", x.mean(3, 0), 1);
        x.drop(3, 0);
        Check.is("27: a GONE one is one", x.mean(3, 0), 1);
        throwsAndStays("27: one above", y -> y.mean(3, 0));
    }

    /** Promise 28: "PART of a PEER against another one. NoSuchElementException: it has no NODE, alike, no such ones." */
    static void partOfSuchAndNoSuch() {
        TreePeers x = full();
        for (int what = 0; what < 2; what++) {
            int w = what;
            Check.is("28: all", x.part(0, 3, what), 1);
            Check.noSuch("28: no NODE", () -> x.part(3, 0, w));
            Check.noSuch("28: alike", () -> x.part(0, 0, w));
            for (int p : beside(4)) {
                Check.noSuch("28: PEER " + p, () -> x.part(p, 0, w));
                Check.noSuch("28: PEER " + p, () -> x.part(0, p, w));
            }
            Check.noSuch("28: without PEERS", () -> new TreePeers().part(0, 1, w));
        }
        for (int what : beside(2)) {
            Check.noSuch("28: what " + what, () -> x.part(0, 3, what));
        }
        throwsAndStays("28: alike", y -> y.part(0, 0, 0));
        throwsAndStays("28: one above", y -> y.part(0, 3, 0));
    }

    // ---- 29 to 33: TAGS and draws

    /** Promise 29: "TAG of a PEER: how many bytes; NONE: no such one." */
    static void tagOfSuchAndNoSuch() {
        TreePeers x = full();
        Check.is("29: 'ww has 24 in 24'", x.tag(0), 15);
        Check.is("29: 'zz has 0 in 0'", x.tag(3), 13);
        x.cut(3, 0);
        Check.is("29: 'zz has 0 in 0 cut ww'", x.tag(3), 20);
        for (int p : beside(4)) {
            Check.is("29: PEER " + p, x.tag(p), NONE);
        }
        for (int p : beside(3)) {
            stays("29: PEER " + p, NONE, y -> y.tag(p));
        }
        Check.is("29: without PEERS", new TreePeers().tag(0), NONE);
    }

    /** Promise 30: "Byte i of the latest TAG; NONE: none such." */
    static void bytesOfTheLatestTag() {
        TreePeers x = full();
        for (int i : beside(0)) {
            Check.is("30: ahead of any", x.byteAt(i), NONE);
        }
        String due = "ww has 24 in 24";
        x.tag(0);
        for (int i = 0; i < 15; i++) {
            Check.is("30: byte " + i, x.byteAt(i), due.charAt(i));
        }
        for (int i : beside(15)) {
            Check.is("30: byte " + i, x.byteAt(i), NONE);
        }
        x.tag(4);
        x.drop(0, 0);
        Check.cluster(x, "");
        Check.is("30: the latest TAG", x.byteAt(14), '4');
        Check.cluster(x, "peer p;");
        x.tag(0);
        Check.is("30: a shorter one", x.byteAt(11), '0');
        Check.is("30: none behind it", x.byteAt(12), NONE);
        Check.is("30: none behind it", x.byteAt(14), NONE);
    }

    /** Promise 31: "n (1 to 60) ROUNDS DRAWN by a seed: how many (0: there are no PEERS, or no KEYS); NONE: not as told." */
    static void drawnOfOneTo60() {
        for (int n : new int[] {1, 2, 59, 60}) {
            TreePeers x = full();
            Check.is("31: " + n, x.drawn(n, 77), n);
            Check.is("31: no KEYS", Check.of("peer p;").drawn(n, 77), 0);
            Check.is("31: no PEERS", Check.of("key a;").drawn(n, 77), 0);
        }
        for (int n : new int[] {0, -1, 61, 62, -60, LEAST, MOST, 256 + 5, 65536 + 5}) {
            stays("31: " + n, NONE, x -> x.drawn(n, 77));
            Check.is("31: no KEYS, and not as told", Check.of("peer p;").drawn(n, 77), NONE);
        }
        Check.leaves("31: of none", () -> Check.of("peer p;peer q;cut p q;"), x -> Check.is("31: of none", x.drawn(60, 1), 0));
        TreePeers one = full();
        ByHand hand = new ByHand(full(), 77);
        one.drawn(60, 77);
        hand.rounds(60);
        Check.is("31: ROUND by ROUND", one.root(0), hand.x.root(0));
        Check.is("31: ROUND by ROUND", one.root(3), hand.x.root(3));
    }

    /** Promise 32: "How many deeds (PUTTING, DROPPING, PULLING) were refused by 1, by 2, by 3 (why) in the latest drawn() above 0 (two alike PEERS by draws are none; so is cutting and healing);" */
    static void refusedOfTheLatest() {
        TreePeers x = Check.of("key a;peer p;peer q;");
        for (int seed = 0; seed < 30; seed++) {
            ByHand hand = new ByHand(Check.of("key a;peer p;peer q;"), seed);
            TreePeers y = Check.of("key a;peer p;peer q;");
            y.drawn(60, seed);
            hand.rounds(60);
            for (int why = 1; why <= 3; why++) {
                Check.is("32: by " + why, y.refused(why), hand.refused[why]);
            }
        }
        int[] due = new int[4];
        for (int seed = 0; seed < 50 && due[1] * due[2] * due[3] == 0; seed++) {
            x.drawn(60, seed);
            due = new int[] {0, x.refused(1), x.refused(2), x.refused(3)};
        }
        Check.is("32: some of each", due[1] > 0 && due[2] > 0 && due[3] > 0, true);
        x.drawn(0, 4);
        x.drawn(61, 4);
        x.put(0, 0, 5);
        x.put(0, 0, 5);
        x.odds(20, 4);
        x.undo();
        Check.book(x, 1, "put p a 5;put p a 5;");
        Check.cluster(x, "peer p;");
        x.drawn(60, 4);
        for (int why = 1; why <= 3; why++) {
            Check.is("32: the latest above 0", x.refused(why), due[why]);
        }
        Check.cluster(x, "key a;peer p;");
        x.drawn(60, 4);
        Check.is("32: two alike PEERS are none", x.refused(2) + x.refused(3), 0);
        int cutting = seedOf(7);
        Check.cluster(x, "key a;peer p;peer q;cut p q;");
        x.drawn(1, cutting);
        Check.is("32: cutting and healing is none", x.refused(1) + x.refused(2) + x.refused(3), 0);
    }

    /** A seed whose first draw of 8 is that. */
    private static int seedOf(int draw) {
        int seed = 0;
        while ((int) (seed * 1103515245L + 12345L) >>> 8 << 29 != draw << 29) {
            seed++;
        }
        return seed;
    }

    /** Promise 32: "NONE: another why, or ahead of any." */
    static void noSuchRefusals() {
        TreePeers x = Check.of("key a;peer p;");
        for (int why = -1; why <= 4; why++) {
            Check.is("32: ahead of any", x.refused(why), NONE);
        }
        x.drawn(0, 1);
        Check.is("32: still ahead of any", x.refused(1), NONE);
        x.odds(1, 1);
        Check.is("32: odds() is none", x.refused(1), NONE);
        x.drawn(1, 1);
        for (int why : new int[] {0, -1, 4, 5, LEAST, MOST, 257, 65537}) {
            Check.is("32: why " + why, x.refused(why), NONE);
        }
        Check.is("32: by 3", x.refused(3), 0);
    }

    /** Promise 33: "Of n (1 to 20) seeds x, x and 1, .. by how many all ROOTS are alike behind 20 ROUNDS DRAWN from now on (without PEERS or KEYS: n); NONE: not as told." */
    static void oddsOfOneTo20() {
        String text = "page 12;key a;peer p;peer q;has p a 3;";
        for (int first : new int[] {0, -3, MOST, MOST - 2, LEAST, LEAST + 1, -1}) {
            int alike = 0;
            for (int n = 1; n <= 20; n++) {
                TreePeers y = Check.of(text);
                y.drawn(20, first + n - 1);
                alike += y.now(4) == 1 ? 1 : 0;
                Check.is("33: " + n + " from " + first, Check.of(text).odds(n, first), alike);
            }
        }
        for (int n : new int[] {1, 20}) {
            Check.is("33: without PEERS", Check.of("key a;").odds(n, 5), n);
            Check.is("33: without KEYS", Check.of("peer p;peer q;").odds(n, 5), n);
            Check.is("33: without both", new TreePeers().odds(n, 5), n);
            Check.is("33: one PEER", Check.of("key a;peer p;").odds(n, 5), n);
        }
        for (int n : new int[] {0, -1, 21, 22, LEAST, MOST, 256 + 5}) {
            stays("33: " + n, NONE, x -> x.odds(n, 5));
            Check.is("33: without KEYS, and not as told", Check.of("peer p;").odds(n, 5), NONE);
        }
        int due = busy().odds(20, 5);
        stays("33: all stays", due, x -> x.odds(20, 5));
    }

    // ---- 34 to 40: BOOKS, SENTENCES, images

    /** Promise 34: "The tape is a BOOK: it is judged, all staying as it is (lives 0), or lived as far as it is not WRONG (1): the LINE that is WRONG; NONE: none;" */
    static void booksJudgedAndLived() {
        String[] texts = {"", "put x d 9;", "put x d 1;put x d 2;put x d 2;put x d 3;", "drop x f;put x f 1;", "put x f 1;drop x f;"};
        int[] wrong = {NONE, 0, 2, 0, NONE};
        int[] lived = {0, 0, 2, 0, 2};
        String before = Dump.stateOf(busy());
        for (int i = 0; i < texts.length; i++) {
            TreePeers x = busy();
            x.end(0);
            Check.is("34: judged", Check.book(x, 0, texts[i]), wrong[i]);
            Check.text("34: all stays", Dump.stateOf(x), before);
            Check.is("34: lived", Check.book(x, 1, texts[i]), wrong[i]);
            Check.is("13: as far as it is not WRONG", x.now(2), busy().now(2) + lived[i]);
            Check.is("19: as one deed, if some LINE was", x.undo(), lived[i] == 0 ? 3 : 4);
            if (lived[i] > 0) {
                Check.text("19: as ahead of it", Dump.stateOf(x), before);
            }
        }
        String forty = "put x d 1;put x d 2;".repeat(20);
        TreePeers x = Check.of(SMALL);
        Check.is("34: forty", Check.book(x, 1, forty), NONE);
        Check.is("13: forty STAMPS", x.now(2), 45);
        TreePeers y = Check.of(SMALL);
        Check.is("34: the last is WRONG", Check.book(y, 1, forty.substring(10) + "put x d 2;"), 39);
        Check.is("13: thirty-nine STAMPS", y.now(2), 44);
    }

    /** Promise 34: "or lived as far as it is not WRONG (1):" (as the same deeds one by one) */
    static void booksLivedAsDeeds() {
        TreePeers x = Check.of(SMALL);
        TreePeers y = Check.of(SMALL);
        Check.is("34: lived", Check.book(x, 1, "put y f 3;put y b 4;drop y a;put y d 1;put z c 2;pull z x;cut x y;heal y z;drop x e;"), NONE);
        y.put(1, 5, 3);
        y.put(1, 3, 4);
        y.drop(1, 1);
        y.put(1, 4, 1);
        y.put(2, 2, 2);
        y.pull(2, 0);
        y.cut(0, 1);
        y.heal(1, 2);
        y.drop(0, 0);
        Check.text("34: as deeds", Dump.stateOf(x), Dump.stateOf(y));
        for (int p = 0; p < 3; p++) {
            for (int k = 0; k < 6; k++) {
                Check.is("26: PATH", x.path(p, k), y.path(p, k));
            }
        }
    }

    /** Promise 34: "-2 less the place of a FAULT;" */
    static void booksWithFaults() {
        String[] texts = {"#", "x", "put x d 1;#", "put x d 1;put x d 10000;", " ".repeat(401), "put x d 1;" + " ".repeat(391)};
        int[] places = {0, 0, 10, 18, 400, 400};
        String before = Dump.stateOf(busy());
        for (int lives = 0; lives < 2; lives++) {
            for (int i = 0; i < texts.length; i++) {
                TreePeers x = busy();
                x.end(0);
                Check.is("34: -2 less the place", Check.book(x, lives, texts[i]), -2 - places[i]);
                Check.text("34: nothing is lived", Dump.stateOf(x), before);
                Check.is("19: nor can be undone", x.undo(), 3);
                Check.is("35: told() stays", x.told(0), 41);
            }
        }
    }

    /** Promise 34: "-1000: another lives (the tape stays)." */
    static void booksOfAnotherLives() {
        for (int lives : beside(2)) {
            stays("34: lives " + lives, -1000, x -> x.book(lives));
            TreePeers x = Check.of(SMALL);
            Check.feed(x, "put x d 1;");
            Check.is("34: -1000", x.book(lives), -1000);
            Check.is("40: the tape stays", x.count(5), 10);
            Check.is("34: the BOOK", x.book(1), NONE);
            Check.is("11: lived", x.entry(0, 4, 0), 1);
        }
    }

    /** Promise 35: "Of the latest book() that had no FAULT (and was not -1000): 0 why it was WRONG (0: it was not; 1 putting, 11 dropping, 21 to 23 pulling, 31 cutting, 41 healing)," */
    static void toldWhy() {
        String[] texts = {"put x a 4;", "put x a 5;", "drop y e;", "pull y z;", "heal y z;drop y a;pull z y;pull z y;", "pull x z;", "cut z y;", "heal x y;"};
        int[] whys = {0, 1, 11, 21, 22, 23, 31, 41};
        for (int i = 0; i < texts.length; i++) {
            TreePeers x = Check.of(SMALL);
            Check.book(x, 0, texts[i]);
            Check.is("35: " + texts[i], x.told(0), whys[i]);
            Check.book(x, 1, "#");
            x.book(7);
            x.put(0, 4, 4);
            Check.cluster(x, "");
            Check.is("35: of the latest without a FAULT", x.told(0), whys[i]);
            x.book(0);
            Check.is("35: of another", x.told(0), 0);
        }
        TreePeers gone = Check.of(SMALL);
        Check.book(gone, 0, "drop x a;drop x a;");
        Check.is("35: a GONE one", gone.told(0), 11);
    }

    /** Promise 35: "1 LINES that are not, 2 STAMPS given then, 3 how many different ROOTS there are then." */
    static void toldThen() {
        TreePeers x = Check.of(SMALL);
        told(x, "", 0, 5, 3);
        told(x, "put x a 5;", 0, 5, 3);
        told(x, "put x a 4;put x a 4;put x a 5;", 1, 6, 3);
        told(x, "put x d 1;put x d 2;".repeat(20), 40, 45, 3);
        told(x, "put z a 5;put x f 1;drop x a;", 3, 8, 3);
        told(x, "heal z y;pull z y;", 2, 5, 2);
        told(x, "heal z y;pull z y;pull z y;drop x a;", 2, 5, 2);
        Check.is("13: all stays", x.now(2), 5);
        TreePeers y = new TreePeers();
        told(y, "", 0, 0, 0);
        TreePeers four = Check.of("key a;peer p;peer q;peer r;peer s;");
        told(four, "", 0, 0, 1);
        told(four, "put p a 1;put q a 1;put r a 1;", 3, 3, 4);
    }

    private static void told(TreePeers x, String text, int lines, int stamps, int roots) {
        Check.is("35: no FAULT: " + text, Check.book(x, 0, text) >= NONE, true);
        Check.is("35: LINES: " + text, x.told(1), lines);
        Check.is("35: STAMPS: " + text, x.told(2), stamps);
        Check.is("35: ROOTS: " + text, x.told(3), roots);
    }

    /** Promise 35: "NONE: another what, or ahead of any." */
    static void noSuchTold() {
        TreePeers x = Check.of(SMALL);
        for (int what = -1; what < 5; what++) {
            Check.is("35: ahead of any", x.told(what), NONE);
        }
        Check.book(x, 1, "#");
        x.book(2);
        Check.is("35: a FAULT, -1000: still ahead of any", x.told(0), NONE);
        x.book(0);
        for (int what : beside(4)) {
            Check.is("35: what " + what, x.told(what), NONE);
        }
        Check.is("35: 3", x.told(3), 3);
    }

    /** Promise 36: "The tape is the SENTENCE now: how many ONES (each not, bracket and other one);" */
    static void sentenceTellsItsOnes() {
        TreePeers x = Check.of(SMALL);
        Check.is("36: one", Check.sentence(x, "torn"), 1);
        Check.is("36: a not", Check.sentence(x, "not torn"), 2);
        Check.is("36: a bracket", Check.sentence(x, "(torn)"), 2);
        Check.is("36: both", Check.sentence(x, "not(not torn)"), 4);
        Check.is("36: and, or are none", Check.sentence(x, "held x and gone y or level=0"), 3);
        Check.is("36: twenty", Check.sentence(x, "torn" + " and torn".repeat(19)), 20);
        Check.is("37: it is that now", x.said(NONE), 4);
        Check.is("36: another", Check.sentence(x, "number=5"), 1);
        Check.is("37: it is that now", x.said(0), 5);
    }

    /** Promise 36: "-1 less the place of a FAULT: it stays." */
    static void sentenceWithFaultStays() {
        String[] texts = {"", "x", " ".repeat(201), "torn or", "torn" + " and torn".repeat(20), "not torn and held q"};
        int[] places = {0, 0, 200, 7, 180, 18};
        for (int i = 0; i < texts.length; i++) {
            TreePeers x = Check.of(SMALL);
            Check.is("36: -1 less the place", Check.sentence(x, texts[i]), -1 - places[i]);
            Check.is("37: none so far", x.said(NONE), NONE);
            Check.sentence(x, "number>2");
            Check.is("36: -1 less the place", Check.sentence(x, texts[i]), -1 - places[i]);
            Check.is("37: it stays", x.said(NONE), 3);
            Check.is("37: it stays", x.said(0), 3);
        }
    }

    /** Promise 37: "KEYS of which it may be said: how many (k NONE), or the k-th." */
    static void saidFromNoneToAll() {
        TreePeers x = full();
        Check.sentence(x, "torn");
        Check.is("37: all", x.said(NONE), 24);
        for (int k = 0; k < 24; k++) {
            Check.is("37: the k-th", x.said(k), k);
        }
        Check.sentence(x, "not torn");
        Check.is("37: none", x.said(NONE), 0);
        Check.is("37: no first", x.said(0), NONE);
        Check.sentence(x, "number=23");
        Check.is("37: one", x.said(NONE), 1);
        Check.is("37: it", x.said(0), 23);
        Check.is("37: no second", x.said(1), NONE);
        stays("37: asking leaves all", 3, y -> y.said(2));
    }

    /** Promise 37: "NONE: there is no SENTENCE, none such." */
    static void noSuchSaid() {
        TreePeers x = full();
        for (int k = -2; k < 25; k++) {
            Check.is("37: no SENTENCE", x.said(k), NONE);
        }
        Check.sentence(x, "torn");
        for (int k : beside(24)) {
            Check.is("37: " + k, x.said(k), k == NONE ? 24 : NONE);
        }
        Check.cluster(x, "key a;");
        Check.is("37: no SENTENCE", x.said(NONE), NONE);
        Check.is("37: no SENTENCE", x.said(0), NONE);
    }

    /** Promise 38: "CLUSTER, all that is so and the SENTENCE are kept in place k (0, 1): true; false: no such one." */
    static void imagesOfTwo() {
        TreePeers x = busy();
        Check.is("38: 0", x.image(0), true);
        x.put(1, 5, 5);
        Check.sentence(x, "torn");
        Check.is("38: 1", x.image(1), true);
        Check.cluster(x, "rule most;key k;peer p;");
        Check.is("39: 0", x.restore(0), true);
        Check.text("39: all as it was", Dump.stateOf(x), Dump.stateOf(busy()));
        TreePeers y = busy();
        y.put(1, 5, 5);
        Check.sentence(y, "torn");
        Check.is("39: 1", x.restore(1), true);
        Check.text("39: all as it was", Dump.stateOf(x), Dump.stateOf(y));
        for (int k : beside(2)) {
            Check.leaves("38: " + k, CallBoundsTest::busy, z -> Check.is("38: " + k, z.image(k), false));
        }
    }

    /** Promise 39: "They are as kept in place k (the tape, and what other calls told last, stays; nothing can be undone): true;" */
    static void restoreLeavesTheRest() {
        TreePeers x = busy();
        String[] told = latest(x);
        Check.is("39: 1", x.restore(1), true);
        String[] then = latest(x);
        for (int i = 0; i < told.length; i++) {
            Check.text("39: told last", then[i], told[i]);
        }
        Check.is("40: the tape", x.count(5), 3);
        Check.is("4: it is 'key'", x.cluster(), -4);
        Check.is("19: nothing can be undone", x.undo(), NONE);
        Check.is("39: again", x.restore(1), true);
        TreePeers empty = new TreePeers();
        empty.image(0);
        Check.cluster(empty, SMALL);
        Check.sentence(empty, "torn");
        Check.is("39: an empty one", empty.restore(0), true);
        Check.is("40: without PEERS", empty.count(1), 0);
        Check.is("37: without a SENTENCE", empty.said(NONE), NONE);
    }

    private static String[] latest(TreePeers x) {
        StringBuilder bytes = new StringBuilder();
        for (int i = 0; i < 20; i++) {
            bytes.append(x.byteAt(i)).append(' ');
        }
        return new String[] {
            "FAULT " + x.fault() + " " + x.faultLine(),
            "told " + x.told(0) + " " + x.told(1) + " " + x.told(2) + " " + x.told(3),
            "refused " + x.refused(1) + " " + x.refused(2) + " " + x.refused(3),
            "OFFERS " + x.offerAt(0) + " " + x.offerAt(1) + " " + x.offerAt(2) + " " + x.offerAt(3) + " " + x.offerAt(4),
            "TAG " + bytes};
    }

    /** Promise 39: "false: no such one, or nothing is kept there." */
    static void restoreOfNoSuch() {
        Check.leaves("39: nothing is kept", CallBoundsTest::busy, x -> Check.is("39: 0", x.restore(0), false));
        for (int k : beside(2)) {
            Check.leaves("39: " + k, CallBoundsTest::busy, x -> Check.is("39: " + k, x.restore(k), false));
        }
        TreePeers x = new TreePeers();
        Check.is("39: nothing in 0", x.restore(0), false);
        Check.is("39: nothing in 1", x.restore(1), false);
        x.image(1);
        Check.is("39: nothing in 0", x.restore(0), false);
        Check.is("39: one in 1", x.restore(1), true);
        x.image(0);
        Check.is("39: one in 0", x.restore(0), true);
    }

    /** Promise 40: "0 KEYS, 1 PEERS, 2 'bits', 3 'page', 4 the RULE (0 late, 1 most, 2 least), 5 bytes of the tape." */
    static void countsFromEmptyToFull() {
        TreePeers x = full();
        int[] due = {24, 4, 1, 12, 0, 0};
        for (int what = 0; what < 6; what++) {
            Check.is("40: full", x.count(what), due[what]);
        }
        Check.cluster(x, "rule least;bits 4;page 1;");
        int[] empty = {0, 0, 4, 1, 2, 0};
        for (int what = 0; what < 6; what++) {
            Check.is("40: empty", x.count(what), empty[what]);
        }
        Check.cluster(x, "rule most;");
        Check.is("40: most", x.count(4), 1);
        Check.feed(x, " ".repeat(940));
        Check.is("40: 940", x.count(5), 940);
    }

    /** Promise 40: "NONE for another what." */
    static void noSuchCounts() {
        TreePeers x = full();
        for (int what : beside(6)) {
            Check.is("40: what " + what, x.count(what), NONE);
            Check.is("40: what " + what, new TreePeers().count(what), NONE);
        }
    }
}
