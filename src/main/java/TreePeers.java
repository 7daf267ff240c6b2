import java.util.NoSuchElementException;

/** Anti-entropy between peers with search trees shaped by digests; the promises stand in ../shared/DOC.md. */
public final class TreePeers {
    public static final int NONE = -1;

    private static final int MOST_KEYS = 24;
    private static final int MOST_PEERS = 4;
    private static final int MOST_VALUE = 999;
    private static final int GONE_VALUE = -1;
    private static final int TAPE_BYTES = 940;
    private static final int CLUSTER_BYTES = 900;
    private static final int BOOK_BYTES = 400;
    private static final int SENTENCE_BYTES = 200;
    private static final int BOOK_LINES = 40;
    private static final int MOST_ONES = 20;
    private static final int MOST_WITHIN = 8;
    private static final int MOST_PULLS = 100;
    private static final int ODDS_ROUNDS = 20;
    private static final int IMAGES = 2;
    private static final int UNDOABLE = 8;
    private static final int TAG_BYTES = 48;
    private static final int NAME_BYTES = 7;

    private static final int LATE_RULE = 0;
    private static final int MOST_RULE = 1;

    /** Every word that no NAME may be, packed as names are; the W_ constants are their places here. */
    private static final long[] WORDS = {
        0x62697473000000L, // bits
        0x70616765000000L, // page
        0x72756c65000000L, // rule
        0x6c617465000000L, // late
        0x6d6f7374000000L, // most
        0x6c656173740000L, // least
        0x6b657900000000L, // key
        0x70656572000000L, // peer
        0x68617300000000L, // has
        0x63757400000000L, // cut
        0x70757400000000L, // put
        0x64726f70000000L, // drop
        0x70756c6c000000L, // pull
        0x6865616c000000L, // heal
        0x6f720000000000L, // or
        0x616e6400000000L, // and
        0x6e6f7400000000L, // not
        0x746f726e000000L, // torn
        0x68656c64000000L, // held
        0x676f6e65000000L, // gone
        0x6c6576656c0000L, // level
        0x636f7069657300L, // copies
        0x7374616d700000L, // stamp
        0x6e756d62657200L, // number
    };
    private static final int W_BITS = 0;
    private static final int W_PAGE = 1;
    private static final int W_RULE = 2;
    private static final int W_LATE = 3;
    private static final int W_LEAST = 5;
    private static final int W_KEY = 6;
    private static final int W_PEER = 7;
    private static final int W_HAS = 8;
    private static final int W_CUT = 9;
    private static final int W_PUT = 10;
    private static final int W_DROP = 11;
    private static final int W_PULL = 12;
    private static final int W_HEAL = 13;
    private static final int W_OR = 14;
    private static final int W_AND = 15;
    private static final int W_NOT = 16;
    private static final int W_TORN = 17;
    private static final int W_HELD = 18;
    private static final int W_GONE = 19;
    private static final int W_LEVEL = 20;
    private static final int W_COPIES = 21;
    private static final int W_STAMP = 22;
    private static final int W_NUMBER = 23;

    private static final int T_END = 0;
    private static final int T_NOTHING = 1;
    private static final int T_WORD = 2;
    private static final int T_NAME = 3;
    private static final int T_NUMBER = 4;
    private static final int T_SIGN = 5;

    private static final int F_TOKEN = 1;
    private static final int F_NUMBER = 2;
    private static final int F_NAME = 3;
    private static final int F_MANY = 4;

    private final byte[] tape = new byte[TAPE_BYTES];
    private int tapeLength = 0;
    private final Scene live = new Scene();
    private final Scene draft = new Scene();
    private final Scene[] kept = {new Scene(), new Scene()};
    private final Peers peers = new Peers(live.plan, live.facts);
    private final Peers trial = new Peers(live.plan, new Facts());
    private final Undo deeds = new Undo();
    private final Draws draws = new Draws();
    private final Reader reader = new Reader(tape);
    private final ClusterText clusterText = new ClusterText(reader, draft);
    private final Book lines = new Book(reader, live.plan);
    private final int[] offerKeys = new int[MOST_KEYS];
    private int offerCount = 0;
    private final byte[] tagBytes = new byte[TAG_BYTES];
    private int tagLength = 0;
    private int faultKind = 0;
    private int faultAt = NONE;

    public TreePeers() {
    }

    // ---- the tape and the texts

    public int feed(int a, int b, int c, int d, int e) {
        if (tapeLength + 20 > TAPE_BYTES) {
            return NONE;
        }
        feedNumber(a);
        feedNumber(b);
        feedNumber(c);
        feedNumber(d);
        feedNumber(e);
        return tapeLength;
    }

    private void feedNumber(int number) {
        for (int shift = 24; shift >= 0; shift -= 8) {
            tape[tapeLength] = (byte) (number >>> shift);
            tapeLength++;
        }
    }

    public boolean end(int n) {
        if (n < 0 || n > tapeLength) {
            return false;
        }
        tapeLength = n;
        return true;
    }

    public int cluster() {
        reader.open(tapeLength, CLUSTER_BYTES);
        boolean read = clusterText.read();
        closeText(reader.lineCount);
        if (!read) {
            return -1 - reader.faultPlace;
        }
        draft.saying.clear();
        live.copyFrom(draft);
        peers.growTrees();
        deeds.clear();
        return reader.lineCount;
    }

    /** The tape is empty behind every reading, and what fault() and faultLine() tell is the reading's. */
    private void closeText(int line) {
        tapeLength = 0;
        faultKind = reader.faultKind;
        faultAt = faultKind == 0 ? NONE : line;
    }

    public int fault() {
        return faultKind;
    }

    public int faultLine() {
        return faultAt;
    }

    // ---- how all is

    public int key(int k, int what) {
        if (!isKey(k)) {
            return NONE;
        }
        switch (what) {
            case 0:
                return live.plan.levels[k];
            case 1:
                return live.plan.places[k];
            case 2:
                return peers.holderBits(k);
            default:
                return NONE;
        }
    }

    public int digest(int k) throws NoSuchElementException {
        if (!isKey(k)) {
            throw new NoSuchElementException("no such key");
        }
        return live.plan.digests[k];
    }

    public int peer(int p, int what) {
        if (!isPeer(p)) {
            return NONE;
        }
        switch (what) {
            case 0:
                return peers.trees[p].rowSize;
            case 1:
                return peers.goneCount(p);
            case 2:
                return peers.trees[p].nodes;
            case 3:
                return peers.trees[p].nodes == 0 ? NONE : peers.trees[p].level[0];
            case 4:
                return live.facts.cutBits[p];
            case 5:
                return peers.sameRootBits(p);
            case 6:
                return live.facts.came[p];
            default:
                return NONE;
        }
    }

    public int root(int p) throws NoSuchElementException {
        if (!isPeer(p)) {
            throw new NoSuchElementException("no such peer");
        }
        return peers.rootOf(p);
    }

    public int entry(int p, int k, int what) throws NoSuchElementException {
        if (!isPeer(p) || !isKey(k) || what < 0 || what > 2 || !live.facts.has(p, k)) {
            throw new NoSuchElementException("no such entry");
        }
        if (what == 0) {
            return live.facts.valueOf(p, k);
        }
        return what == 1 ? live.facts.stampOf(p, k) : live.facts.digestOf(live.plan, p, k);
    }

    public int node(int p, int i, int what) throws NoSuchElementException {
        if (!isPeer(p) || i < 0 || i >= peers.trees[p].nodes || what < 0 || what > 6) {
            throw new NoSuchElementException("no such node");
        }
        return peers.trees[p].tell(i, what);
    }

    public int now(int what) {
        switch (what) {
            case 0:
                return live.facts.pullsDone;
            case 1:
                return live.facts.offersDone;
            case 2:
                return live.facts.given;
            case 3:
                return peers.tornBits();
            case 4:
                return peers.rootKinds();
            default:
                return NONE;
        }
    }

    // ---- deeds

    public int put(int p, int k, int value) {
        if (!isPeer(p) || !isKey(k) || value < 0 || value > MOST_VALUE) {
            return NONE;
        }
        deeds.note(live.facts);
        return keepIfDone(peers.tryPut(p, k, value));
    }

    public int drop(int p, int k) {
        if (!isPeer(p) || !isKey(k)) {
            return NONE;
        }
        deeds.note(live.facts);
        return keepIfDone(peers.tryDrop(p, k));
    }

    public int pull(int a, int b) {
        if (!areTwo(a, b)) {
            return NONE;
        }
        deeds.note(live.facts);
        return keepIfDone(peers.tryPull(a, b));
    }

    public int cut(int a, int b) {
        if (!areTwo(a, b)) {
            return NONE;
        }
        deeds.note(live.facts);
        return keepIfDone(peers.tryCut(a, b));
    }

    public int heal(int a, int b) {
        if (!areTwo(a, b)) {
            return NONE;
        }
        deeds.note(live.facts);
        return keepIfDone(peers.tryHeal(a, b));
    }

    private int keepIfDone(int why) {
        if (why == 0) {
            deeds.keepNoted();
        }
        return why;
    }

    public int undo() {
        if (deeds.size == 0) {
            return NONE;
        }
        deeds.takeBack(live.facts);
        peers.growTrees();
        return deeds.size;
    }

    // ---- two peers beside one another

    public int visits(int a, int b) {
        return areTwo(a, b) ? Integer.bitCount(peers.visitedBits(a, b)) : NONE;
    }

    public int differs(int a, int b) {
        return areTwo(a, b) ? peers.differBits(a, b) : NONE;
    }

    public int offers(int a, int b) {
        if (!areTwo(a, b)) {
            return NONE;
        }
        offerCount = peers.findOffers(a, b);
        System.arraycopy(peers.found, 0, offerKeys, 0, offerCount);
        return offerCount;
    }

    public int offerAt(int k) {
        return k >= 0 && k < offerCount ? offerKeys[k] : NONE;
    }

    public int fresh(int p, int k, int value) {
        if (!isPeer(p) || !isKey(k) || value < 0 || value > MOST_VALUE) {
            return NONE;
        }
        trial.copyFrom(peers);
        if (trial.tryPut(p, k, value) != 0) {
            return 0;
        }
        return trial.trees[p].countMissing(peers.trees[p]);
    }

    public int pulls(int a, int b) {
        if (!areTwo(a, b) || live.facts.areCut(a, b)) {
            return NONE;
        }
        trial.copyFrom(peers);
        for (int done = 0; done < MOST_PULLS; done++) {
            if (trial.rootOf(a) == trial.rootOf(b)) {
                return done;
            }
            if (done % 2 == 0) {
                trial.tryPull(a, b);
            } else {
                trial.tryPull(b, a);
            }
        }
        return trial.rootOf(a) == trial.rootOf(b) ? MOST_PULLS : NONE;
    }

    public int path(int p, int k) {
        if (!isPeer(p) || !isKey(k) || !live.facts.has(p, k)) {
            return NONE;
        }
        return peers.trees[p].depthOf(k);
    }

    public int mean(int p, int what) throws NoSuchElementException {
        if (!isPeer(p) || what < 0 || what > 1 || peers.trees[p].rowSize == 0) {
            throw new NoSuchElementException("no mean");
        }
        return termOf(peers.trees[p].rowSize, peers.trees[p].nodes, what);
    }

    public int part(int a, int b, int what) throws NoSuchElementException {
        if (!areTwo(a, b) || what < 0 || what > 1 || peers.trees[a].nodes == 0) {
            throw new NoSuchElementException("no part");
        }
        return termOf(Integer.bitCount(peers.visitedBits(a, b)), peers.trees[a].nodes, what);
    }

    /** What is above (0) or below (1) in a fraction in least terms. */
    private static int termOf(int above, int below, int what) {
        int x = above;
        int y = below;
        for (int i = 0; i < MOST_KEYS && y > 0; i++) {
            int rest = x % y;
            x = y;
            y = rest;
        }
        int wanted = what == 0 ? above : below;
        return x == 0 ? wanted : wanted / x;
    }

    // ---- tags

    public int tag(int p) {
        if (!isPeer(p)) {
            return NONE;
        }
        tagLength = 0;
        addName(live.plan.peerNames[p]);
        addText(" has ");
        addNumber(peers.trees[p].rowSize);
        addText(" in ");
        addNumber(peers.trees[p].nodes);
        int other = live.facts.firstCut(p);
        if (other != NONE) {
            addText(" cut ");
            addName(live.plan.peerNames[other]);
        }
        return tagLength;
    }

    public int byteAt(int i) {
        return i >= 0 && i < tagLength ? tagBytes[i] & 255 : NONE;
    }

    private void addByte(int sign) {
        if (tagLength < TAG_BYTES) {
            tagBytes[tagLength] = (byte) sign;
            tagLength++;
        }
    }

    private void addName(long name) {
        for (int i = 0; i < NAME_BYTES; i++) {
            int sign = Plan.signOf(name, i);
            if (sign != 0) {
                addByte(sign);
            }
        }
    }

    private void addText(String text) {
        for (int i = 0; i < text.length(); i++) {
            addByte(text.charAt(i));
        }
    }

    /** No more than 24 is ever told, so two digits do. */
    private void addNumber(int number) {
        if (number >= 10) {
            addByte('0' + number / 10 % 10);
        }
        addByte('0' + number % 10);
    }

    // ---- draws

    public int drawn(int n, int seed) {
        if (n < 1 || n > 60) {
            return NONE;
        }
        if (!live.plan.hasBoth()) {
            return 0;
        }
        deeds.note(live.facts);
        draws.begin(seed);
        draws.runRounds(peers, n);
        draws.keepRefusals();
        deeds.keepNoted();
        return n;
    }

    public int refused(int why) {
        return draws.refusedBy(why);
    }

    public int odds(int n, int seed) {
        if (n < 1 || n > 20) {
            return NONE;
        }
        if (!live.plan.hasBoth()) {
            return n;
        }
        int alike = 0;
        for (int i = 0; i < n; i++) {
            trial.copyFrom(peers);
            draws.begin(seed + i);
            draws.runRounds(trial, ODDS_ROUNDS);
            if (trial.rootKinds() == 1) {
                alike++;
            }
        }
        return alike;
    }

    // ---- books and sentences

    public int book(int lives) {
        if (lives < 0 || lives > 1) {
            return -1000;
        }
        reader.open(tapeLength, BOOK_BYTES);
        boolean read = lines.read();
        closeText(reader.lineCount);
        if (!read) {
            return -2 - reader.faultPlace;
        }
        trial.copyFrom(peers);
        int wrong = lines.judge(trial);
        if (lives == 1 && lines.rightLines > 0) {
            deeds.note(live.facts);
            deeds.keepNoted();
            peers.copyFrom(trial);
        }
        return wrong;
    }

    public int told(int what) {
        return lines.tell(what);
    }

    public int sentence() {
        reader.open(tapeLength, SENTENCE_BYTES);
        boolean read = draft.saying.read(reader, live.plan);
        closeText(0);
        if (!read) {
            return -1 - reader.faultPlace;
        }
        live.saying.copyFrom(draft.saying);
        return live.saying.ones;
    }

    public int said(int k) {
        if (live.saying.ones == 0 || k < NONE) {
            return NONE;
        }
        int holding = 0;
        for (int i = 0; i < live.plan.keyCount; i++) {
            if (live.saying.holdsOf(peers, i)) {
                if (holding == k) {
                    return i;
                }
                holding++;
            }
        }
        return k == NONE ? holding : NONE;
    }

    // ---- images

    public boolean image(int k) {
        if (k < 0 || k >= IMAGES) {
            return false;
        }
        kept[k].copyFrom(live);
        kept[k].filled = true;
        return true;
    }

    public boolean restore(int k) {
        if (k < 0 || k >= IMAGES || !kept[k].filled) {
            return false;
        }
        live.copyFrom(kept[k]);
        peers.growTrees();
        deeds.clear();
        return true;
    }

    public int count(int what) {
        switch (what) {
            case 0:
                return live.plan.keyCount;
            case 1:
                return live.plan.peerCount;
            case 2:
                return live.plan.bits;
            case 3:
                return live.plan.page;
            case 4:
                return live.plan.rule;
            case 5:
                return tapeLength;
            default:
                return NONE;
        }
    }

    private boolean isKey(int k) {
        return k >= 0 && k < live.plan.keyCount;
    }

    private boolean isPeer(int p) {
        return p >= 0 && p < live.plan.peerCount;
    }

    private boolean areTwo(int a, int b) {
        return isPeer(a) && isPeer(b) && a != b;
    }

    private static int mix(int x, int y) {
        int product = (x ^ y) * 16777619;
        return product ^ (product >>> 15);
    }

    /** What a CLUSTER's text tells and no deed changes. */
    private static final class Plan {
        int bits = 2;
        int page = 4;
        int rule = LATE_RULE;
        int keyCount = 0;
        int peerCount = 0;
        final long[] keyNames = new long[MOST_KEYS];
        final long[] peerNames = new long[MOST_PEERS];
        final int[] digests = new int[MOST_KEYS];
        final int[] levels = new int[MOST_KEYS];
        final int[] order = new int[MOST_KEYS];
        final int[] places = new int[MOST_KEYS];

        void clear() {
            bits = 2;
            page = 4;
            rule = LATE_RULE;
            keyCount = 0;
            peerCount = 0;
        }

        void copyFrom(Plan other) {
            bits = other.bits;
            page = other.page;
            rule = other.rule;
            keyCount = other.keyCount;
            peerCount = other.peerCount;
            System.arraycopy(other.keyNames, 0, keyNames, 0, MOST_KEYS);
            System.arraycopy(other.peerNames, 0, peerNames, 0, MOST_PEERS);
            System.arraycopy(other.digests, 0, digests, 0, MOST_KEYS);
            System.arraycopy(other.levels, 0, levels, 0, MOST_KEYS);
            System.arraycopy(other.order, 0, order, 0, MOST_KEYS);
            System.arraycopy(other.places, 0, places, 0, MOST_KEYS);
        }

        boolean hasBoth() {
            return keyCount > 0 && peerCount > 0;
        }

        /** Byte i of a name (0 behind its end): names are packed with the first byte highest, so they compare as numbers. */
        static int signOf(long name, int i) {
            return (int) (name >>> (8 * (NAME_BYTES - 1 - i))) & 255;
        }

        int keyNamed(long name) {
            return indexOf(keyNames, keyCount, name);
        }

        int peerNamed(long name) {
            return indexOf(peerNames, peerCount, name);
        }

        private static int indexOf(long[] names, int size, long name) {
            for (int i = 0; i < size && i < names.length; i++) {
                if (names[i] == name) {
                    return i;
                }
            }
            return NONE;
        }

        boolean isTold(long name) {
            return indexOf(keyNames, keyCount, name) != NONE || indexOf(peerNames, peerCount, name) != NONE;
        }

        /** All that follows from the names, once they are all told. */
        void settle() {
            for (int k = 0; k < keyCount; k++) {
                digests[k] = digestOf(keyNames[k]);
                levels[k] = levelOf(digests[k]);
            }
            for (int k = 0; k < keyCount; k++) {
                int ahead = 0;
                for (int other = 0; other < keyCount; other++) {
                    if (keyNames[other] < keyNames[k]) {
                        ahead++;
                    }
                }
                places[k] = ahead;
                order[ahead] = k;
            }
        }

        private static int digestOf(long name) {
            int x = -2128831035;
            for (int i = 0; i < NAME_BYTES; i++) {
                int sign = signOf(name, i);
                if (sign != 0) {
                    x = mix(x, sign);
                }
            }
            return x;
        }

        private int levelOf(int digest) {
            int zeros = 0;
            while (zeros < 32 && ((digest >>> zeros) & 1) == 0) {
                zeros++;
            }
            return bits < 1 ? 0 : zeros / bits;
        }
    }

    /** What deeds change: the entries (none where the stamp is 0), the cuts and what was counted so far. */
    private static final class Facts {
        final int[] values = new int[MOST_PEERS * MOST_KEYS];
        final int[] stamps = new int[MOST_PEERS * MOST_KEYS];
        final int[] cutBits = new int[MOST_PEERS];
        final int[] came = new int[MOST_PEERS];
        int pullsDone = 0;
        int offersDone = 0;
        int given = 0;

        void clear() {
            for (int i = 0; i < stamps.length; i++) {
                stamps[i] = 0;
                values[i] = 0;
            }
            for (int p = 0; p < MOST_PEERS; p++) {
                cutBits[p] = 0;
                came[p] = 0;
            }
            pullsDone = 0;
            offersDone = 0;
            given = 0;
        }

        void copyFrom(Facts other) {
            System.arraycopy(other.values, 0, values, 0, MOST_PEERS * MOST_KEYS);
            System.arraycopy(other.stamps, 0, stamps, 0, MOST_PEERS * MOST_KEYS);
            System.arraycopy(other.cutBits, 0, cutBits, 0, MOST_PEERS);
            System.arraycopy(other.came, 0, came, 0, MOST_PEERS);
            pullsDone = other.pullsDone;
            offersDone = other.offersDone;
            given = other.given;
        }

        boolean has(int p, int k) {
            return stamps[p * MOST_KEYS + k] > 0;
        }

        int valueOf(int p, int k) {
            return values[p * MOST_KEYS + k];
        }

        int stampOf(int p, int k) {
            return stamps[p * MOST_KEYS + k];
        }

        boolean isGone(int p, int k) {
            return has(p, k) && valueOf(p, k) == GONE_VALUE;
        }

        int digestOf(Plan plan, int p, int k) {
            return mix(mix(plan.digests[k], stampOf(p, k)), valueOf(p, k) + 1);
        }

        boolean isSame(int p, int q, int k) {
            return stampOf(p, k) == stampOf(q, k) && (!has(p, k) || valueOf(p, k) == valueOf(q, k));
        }

        void write(int p, int k, int value) {
            given++;
            values[p * MOST_KEYS + k] = value;
            stamps[p * MOST_KEYS + k] = given;
        }

        void take(int to, int from, int k) {
            values[to * MOST_KEYS + k] = valueOf(from, k);
            stamps[to * MOST_KEYS + k] = stampOf(from, k);
        }

        boolean areCut(int a, int b) {
            return ((cutBits[a] >>> b) & 1) != 0;
        }

        /** Cuts two that are not cut, heals two that are. */
        void turnLink(int a, int b) {
            cutBits[a] ^= 1 << b;
            cutBits[b] ^= 1 << a;
        }

        int firstCut(int p) {
            for (int other = 0; other < MOST_PEERS; other++) {
                if (areCut(p, other)) {
                    return other;
                }
            }
            return NONE;
        }
    }

    /** The tree of one peer, node by node in their numbers' order; grown anew with every change of its entries. */
    private static final class Tree {
        final int[] row = new int[MOST_KEYS];
        final int[] rowLevels = new int[MOST_KEYS];
        final int[] rowDigests = new int[MOST_KEYS];
        int rowSize = 0;
        final int[] level = new int[MOST_KEYS];
        final int[] size = new int[MOST_KEYS];
        final int[] first = new int[MOST_KEYS];
        final int[] last = new int[MOST_KEYS];
        final int[] below = new int[MOST_KEYS];
        final int[] above = new int[MOST_KEYS];
        final int[] digests = new int[MOST_KEYS];
        final int[] nodeOf = new int[MOST_KEYS];
        int nodes = 0;

        void copyFrom(Tree other) {
            rowSize = other.rowSize;
            nodes = other.nodes;
            System.arraycopy(other.row, 0, row, 0, MOST_KEYS);
            System.arraycopy(other.level, 0, level, 0, MOST_KEYS);
            System.arraycopy(other.size, 0, size, 0, MOST_KEYS);
            System.arraycopy(other.first, 0, first, 0, MOST_KEYS);
            System.arraycopy(other.last, 0, last, 0, MOST_KEYS);
            System.arraycopy(other.below, 0, below, 0, MOST_KEYS);
            System.arraycopy(other.above, 0, above, 0, MOST_KEYS);
            System.arraycopy(other.digests, 0, digests, 0, MOST_KEYS);
            System.arraycopy(other.nodeOf, 0, nodeOf, 0, MOST_KEYS);
        }

        void grow(Plan plan, Facts facts, int p) {
            rowSize = 0;
            nodes = 0;
            for (int place = 0; place < plan.keyCount; place++) {
                int k = plan.order[place];
                nodeOf[k] = NONE;
                if (facts.has(p, k)) {
                    row[rowSize] = k;
                    rowLevels[rowSize] = plan.levels[k];
                    rowDigests[rowSize] = facts.digestOf(plan, p, k);
                    rowSize++;
                }
            }
            growNode(0, rowSize, NONE, 0);
        }

        /** Makes the node of a part of the row and those below it; its digest, 0 if the part is empty. */
        private int growNode(int from, int to, int up, int depth) {
            if (from >= to || depth > MOST_KEYS || nodes >= MOST_KEYS) {
                return 0;
            }
            int me = nodes;
            nodes++;
            openNode(me, topLevel(from, to), up);
            digests[me] = fillNode(me, from, to, depth);
            return digests[me];
        }

        /** Gives a node its keys of a part of the row and the nodes below it; its digest. */
        private int fillNode(int me, int from, int to, int depth) {
            int x = level[me] + 1;
            int begin = from;
            for (int i = from; i < to; i++) {
                if (rowLevels[i] == level[me]) {
                    x = mix(x, growNode(begin, i, me, depth + 1));
                    x = mix(x, rowDigests[i]);
                    addKey(me, row[i]);
                    begin = i + 1;
                }
            }
            return mix(x, growNode(begin, to, me, depth + 1));
        }

        private int topLevel(int from, int to) {
            int top = 0;
            for (int i = from; i < to; i++) {
                if (rowLevels[i] > top) {
                    top = rowLevels[i];
                }
            }
            return top;
        }

        private void openNode(int i, int ofLevel, int up) {
            level[i] = ofLevel;
            size[i] = 0;
            below[i] = 0;
            above[i] = up;
            if (up != NONE) {
                below[up]++;
            }
        }

        private void addKey(int i, int k) {
            if (size[i] == 0) {
                first[i] = k;
            }
            last[i] = k;
            size[i]++;
            nodeOf[k] = i;
        }

        boolean hasDigest(int digest) {
            for (int i = 0; i < nodes; i++) {
                if (digests[i] == digest) {
                    return true;
                }
            }
            return false;
        }

        int countMissing(Tree other) {
            int missing = 0;
            for (int i = 0; i < nodes; i++) {
                if (!other.hasDigest(digests[i])) {
                    missing++;
                }
            }
            return missing;
        }

        int depthOf(int k) {
            int depth = 0;
            int i = nodeOf[k];
            while (i != NONE && depth < MOST_KEYS) {
                depth++;
                i = above[i];
            }
            return depth;
        }

        int tell(int i, int what) {
            switch (what) {
                case 0:
                    return level[i];
                case 1:
                    return size[i];
                case 2:
                    return first[i];
                case 3:
                    return last[i];
                case 4:
                    return below[i];
                case 5:
                    return above[i];
                default:
                    return digests[i];
            }
        }
    }

    /** The peers by some facts, with their trees: once as all is, once as a trial that leaves it so. */
    private static final class Peers {
        final Plan plan;
        final Facts facts;
        final Tree[] trees = {new Tree(), new Tree(), new Tree(), new Tree()};
        final int[] found = new int[MOST_KEYS];

        Peers(Plan plan, Facts facts) {
            this.plan = plan;
            this.facts = facts;
        }

        void copyFrom(Peers other) {
            facts.copyFrom(other.facts);
            for (int p = 0; p < MOST_PEERS; p++) {
                trees[p].copyFrom(other.trees[p]);
            }
        }

        /** Behind every change of the facts that is no deed of these peers. */
        void growTrees() {
            for (int p = 0; p < MOST_PEERS; p++) {
                trees[p].grow(plan, facts, p);
            }
        }

        int rootOf(int p) {
            return trees[p].nodes == 0 ? 0 : trees[p].digests[0];
        }

        int holderBits(int k) {
            int bits = 0;
            for (int p = 0; p < plan.peerCount; p++) {
                if (facts.has(p, k)) {
                    bits |= 1 << p;
                }
            }
            return bits;
        }

        int goneCount(int p) {
            int gone = 0;
            for (int k = 0; k < plan.keyCount; k++) {
                if (facts.isGone(p, k)) {
                    gone++;
                }
            }
            return gone;
        }

        int sameRootBits(int p) {
            int bits = 0;
            for (int other = 0; other < plan.peerCount; other++) {
                if (rootOf(other) == rootOf(p)) {
                    bits |= 1 << other;
                }
            }
            return bits;
        }

        int rootKinds() {
            int kinds = 0;
            for (int p = 0; p < plan.peerCount; p++) {
                if ((sameRootBits(p) & ((1 << p) - 1)) == 0) {
                    kinds++;
                }
            }
            return kinds;
        }

        int differBits(int a, int b) {
            int bits = 0;
            for (int k = 0; k < plan.keyCount; k++) {
                if (!facts.isSame(a, b, k)) {
                    bits |= 1 << k;
                }
            }
            return bits;
        }

        /** If two peers differ in a key, one of them differs from the first peer. */
        int tornBits() {
            int bits = 0;
            for (int p = 1; p < plan.peerCount; p++) {
                bits |= differBits(0, p);
            }
            return bits;
        }

        int greatestStamp(int k) {
            int greatest = 0;
            for (int p = 0; p < plan.peerCount; p++) {
                greatest = Math.max(greatest, facts.stampOf(p, k));
            }
            return greatest;
        }

        /** The nodes of a peer that are visited against another one; those above come first in the numbers' order. */
        int visitedBits(int p, int against) {
            Tree tree = trees[p];
            Tree other = trees[against];
            int bits = 0;
            for (int i = 0; i < tree.nodes; i++) {
                int up = tree.above[i];
                boolean reached = up == NONE || ((bits >>> up) & 1) != 0;
                if (reached && !other.hasDigest(tree.digests[i])) {
                    bits |= 1 << i;
                }
            }
            return bits;
        }

        /** Writes the keys that one peer offers another one, in order, to 'found'; how many. */
        int findOffers(int to, int from) {
            int visited = visitedBits(from, to);
            Tree tree = trees[from];
            int size = 0;
            for (int i = 0; i < tree.rowSize; i++) {
                int k = tree.row[i];
                boolean open = ((visited >>> tree.nodeOf[k]) & 1) != 0;
                if (open && (!facts.has(to, k) || winsOver(from, to, k))) {
                    found[size] = k;
                    size++;
                }
            }
            return size;
        }

        private boolean winsOver(int p, int other, int k) {
            int value = facts.valueOf(p, k);
            int otherValue = facts.valueOf(other, k);
            int stamp = facts.stampOf(p, k);
            int otherStamp = facts.stampOf(other, k);
            if (plan.rule == LATE_RULE) {
                return stamp == otherStamp ? value > otherValue : stamp > otherStamp;
            }
            if (value == otherValue) {
                return stamp > otherStamp;
            }
            if (plan.rule == MOST_RULE) {
                return value > otherValue;
            }
            return value != GONE_VALUE && (otherValue == GONE_VALUE || value < otherValue);
        }

        int tryPut(int p, int k, int value) {
            if (facts.has(p, k) && facts.valueOf(p, k) == value) {
                return 1;
            }
            facts.write(p, k, value);
            trees[p].grow(plan, facts, p);
            return 0;
        }

        int tryDrop(int p, int k) {
            if (!facts.has(p, k) || facts.isGone(p, k)) {
                return 1;
            }
            facts.write(p, k, GONE_VALUE);
            trees[p].grow(plan, facts, p);
            return 0;
        }

        int tryPull(int to, int from) {
            if (facts.areCut(to, from)) {
                return 1;
            }
            if (rootOf(to) == rootOf(from)) {
                return 2;
            }
            int size = Math.min(findOffers(to, from), plan.page);
            if (size == 0) {
                return 3;
            }
            for (int i = 0; i < size; i++) {
                facts.take(to, from, found[i]);
            }
            facts.pullsDone++;
            facts.offersDone += size;
            facts.came[to] += size;
            trees[to].grow(plan, facts, to);
            return 0;
        }

        int tryCut(int a, int b) {
            if (facts.areCut(a, b)) {
                return 1;
            }
            facts.turnLink(a, b);
            return 0;
        }

        int tryHeal(int a, int b) {
            if (!facts.areCut(a, b)) {
                return 1;
            }
            facts.turnLink(a, b);
            return 0;
        }
    }

    /** The facts ahead of the latest deeds; one place more than may be kept, so that noting loses none. */
    private static final class Undo {
        final Facts[] ring = new Facts[UNDOABLE + 1];
        int top = 0;
        int size = 0;

        Undo() {
            for (int i = 0; i < ring.length; i++) {
                ring[i] = new Facts();
            }
        }

        void clear() {
            size = 0;
        }

        void note(Facts facts) {
            ring[top].copyFrom(facts);
        }

        void keepNoted() {
            top = (top + 1) % (UNDOABLE + 1);
            size = Math.min(size + 1, UNDOABLE);
        }

        void takeBack(Facts facts) {
            top = (top + UNDOABLE) % (UNDOABLE + 1);
            size--;
            facts.copyFrom(ring[top]);
        }
    }

    /** Rounds of deeds by draws from a seed. */
    private static final class Draws {
        private int x = 0;
        private final int[] refusals = new int[4];
        private final int[] keptRefusals = new int[4];
        private boolean anyKept = false;

        void begin(int seed) {
            x = seed;
            for (int i = 0; i < refusals.length; i++) {
                refusals[i] = 0;
            }
        }

        void keepRefusals() {
            System.arraycopy(refusals, 0, keptRefusals, 0, 4);
            anyKept = true;
        }

        int refusedBy(int why) {
            return anyKept && why >= 1 && why <= 3 ? keptRefusals[why] : NONE;
        }

        private int draw(int n) {
            x = x * 1103515245 + 12345;
            return n > 0 ? (x >>> 8) % n : 0;
        }

        void runRounds(Peers peers, int rounds) {
            for (int i = 0; i < rounds; i++) {
                runRound(peers);
            }
        }

        private void runRound(Peers peers) {
            int sort = draw(8);
            int p = draw(peers.plan.peerCount);
            if (sort <= 2) {
                int k = draw(peers.plan.keyCount);
                countRefusal(sort == 2 ? peers.tryDrop(p, k) : peers.tryPut(p, k, draw(10)));
                return;
            }
            int q = draw(peers.plan.peerCount);
            if (p == q) {
                return;
            }
            if (sort == 7) {
                peers.facts.turnLink(p, q);
            } else {
                countRefusal(peers.tryPull(p, q));
            }
        }

        private void countRefusal(int why) {
            if (why >= 1 && why <= 3) {
                refusals[why]++;
            }
        }
    }

    /** A text's tokens, one ahead of the parser, and the first fault that it found. */
    private static final class Reader {
        private final byte[] bytes;
        private int length = 0;
        private int most = 0;
        private int at = 0;
        int token = T_END;
        int begin = 0;
        int word = NONE;
        long name = 0;
        int number = 0;
        int sign = 0;
        int lineCount = 0;
        int faultKind = 0;
        int faultPlace = 0;

        Reader(byte[] bytes) {
            this.bytes = bytes;
        }

        void open(int textLength, int mostBytes) {
            length = textLength;
            most = mostBytes;
            at = 0;
            lineCount = 0;
            faultKind = 0;
            faultPlace = 0;
            next();
        }

        private int signAt(int i) {
            return i >= 0 && i < length && i < bytes.length ? bytes[i] & 255 : 0;
        }

        private static boolean isLetter(int c) {
            return c >= 'a' && c <= 'z';
        }

        private static boolean isDigit(int c) {
            return c >= '0' && c <= '9';
        }

        /** A token must begin ahead of the most bytes, but goes on beyond them. */
        void next() {
            int limit = Math.min(length, most);
            while (at < limit && (signAt(at) == ' ' || signAt(at) == '\n')) {
                at++;
            }
            word = NONE;
            sign = 0;
            if (at >= limit) {
                begin = limit;
                token = T_END;
                return;
            }
            begin = at;
            int c = signAt(at);
            if (isLetter(c) || isDigit(c)) {
                readRun();
                return;
            }
            at++;
            boolean known = c == ';' || c == '<' || c == '=' || c == '>' || c == '(' || c == ')';
            token = known ? T_SIGN : T_NOTHING;
            sign = known ? c : 0;
        }

        private void readRun() {
            int letters = 0;
            int digits = 0;
            name = 0;
            number = 0;
            while (at < length && (isLetter(signAt(at)) || isDigit(signAt(at)))) {
                int c = signAt(at);
                if (isLetter(c)) {
                    letters++;
                } else {
                    digits++;
                }
                name = name << 8 | c;
                number = number * 10 + (c - '0');
                at++;
            }
            token = T_NOTHING;
            if (digits == 0 && letters <= NAME_BYTES) {
                name = name << (8 * (NAME_BYTES - letters));
                word = findWord(name);
                token = word == NONE ? T_NAME : T_WORD;
            } else if (letters == 0 && digits <= 3) {
                token = T_NUMBER;
            }
        }

        private static int findWord(long name) {
            for (int i = 0; i < WORDS.length; i++) {
                if (WORDS[i] == name) {
                    return i;
                }
            }
            return NONE;
        }

        /** Notes a fault at the token that is there; false always, so that parsers can answer with it. */
        boolean fail(int kind) {
            faultKind = kind;
            faultPlace = begin;
            return false;
        }

        /** At the end of a text: it must not have more than the most bytes. */
        boolean isWhole() {
            return length <= most || fail(F_TOKEN);
        }

        boolean passSign(int wanted) {
            if (sign != wanted) {
                return fail(F_TOKEN);
            }
            next();
            return true;
        }

        boolean passLineEnd() {
            if (sign != ';') {
                return fail(F_TOKEN);
            }
            lineCount++;
            next();
            return true;
        }

        /** The number that is there (the token stays); NONE and a fault, if there is none or it is not as told. */
        int seeNumber(int least, int greatest) {
            if (token != T_NUMBER) {
                fail(F_TOKEN);
                return NONE;
            }
            if (number < least || number > greatest) {
                fail(F_NUMBER);
                return NONE;
            }
            return number;
        }

        /** The peer whose name is there (the token stays); NONE and a fault, if there is none. */
        int seePeer(Plan plan) {
            return seen(plan.peerNamed(name));
        }

        int seeKey(Plan plan) {
            return seen(plan.keyNamed(name));
        }

        private int seen(int index) {
            if (token != T_NAME) {
                fail(F_TOKEN);
                return NONE;
            }
            if (index == NONE) {
                fail(F_NAME);
            }
            return index;
        }
    }

    /** Reads a CLUSTER's text to a draft. */
    private static final class ClusterText {
        private final Reader reader;
        private final Plan plan;
        private final Facts facts;
        private int toldBits = 0;

        ClusterText(Reader reader, Scene draft) {
            this.reader = reader;
            plan = draft.plan;
            facts = draft.facts;
        }

        boolean read() {
            plan.clear();
            facts.clear();
            toldBits = 0;
            for (int i = 0; i < TAPE_BYTES && reader.token != T_END; i++) {
                if (!readLine()) {
                    return false;
                }
            }
            plan.settle();
            return reader.isWhole();
        }

        private boolean readLine() {
            switch (reader.word) {
                case W_BITS:
                case W_PAGE:
                case W_RULE:
                    return readSetting(reader.word) && reader.passLineEnd();
                case W_KEY:
                    return readKey() && reader.passLineEnd();
                case W_PEER:
                    return readPeer() && reader.passLineEnd();
                case W_HAS:
                    return readHas() && reader.passLineEnd();
                case W_CUT:
                    return readCut() && reader.passLineEnd();
                default:
                    return reader.fail(F_TOKEN);
            }
        }

        private boolean readSetting(int which) {
            if (((toldBits >>> which) & 1) != 0 || plan.keyCount > 0) {
                return reader.fail(F_NAME);
            }
            toldBits |= 1 << which;
            reader.next();
            if (which == W_RULE) {
                return readRule();
            }
            int number = reader.seeNumber(1, which == W_BITS ? 4 : 12);
            if (number == NONE) {
                return false;
            }
            reader.next();
            if (which == W_BITS) {
                plan.bits = number;
            } else {
                plan.page = number;
            }
            return true;
        }

        private boolean readRule() {
            if (reader.word < W_LATE || reader.word > W_LEAST) {
                return reader.fail(F_TOKEN);
            }
            plan.rule = reader.word - W_LATE;
            reader.next();
            return true;
        }

        private boolean readKey() {
            if (plan.keyCount >= MOST_KEYS) {
                return reader.fail(F_MANY);
            }
            reader.next();
            if (!isNewName()) {
                return false;
            }
            plan.keyNames[plan.keyCount] = reader.name;
            plan.keyCount++;
            reader.next();
            return true;
        }

        private boolean readPeer() {
            if (plan.peerCount >= MOST_PEERS) {
                return reader.fail(F_MANY);
            }
            reader.next();
            if (!isNewName()) {
                return false;
            }
            plan.peerNames[plan.peerCount] = reader.name;
            plan.peerCount++;
            reader.next();
            return true;
        }

        private boolean isNewName() {
            if (reader.token != T_NAME) {
                return reader.fail(F_TOKEN);
            }
            return !plan.isTold(reader.name) || reader.fail(F_NAME);
        }

        private boolean readHas() {
            reader.next();
            int p = reader.seePeer(plan);
            if (p == NONE) {
                return false;
            }
            reader.next();
            int k = reader.seeKey(plan);
            if (k == NONE) {
                return false;
            }
            if (facts.has(p, k)) {
                return reader.fail(F_NAME);
            }
            reader.next();
            int value = reader.seeNumber(0, MOST_VALUE);
            if (value == NONE) {
                return false;
            }
            reader.next();
            facts.write(p, k, value);
            return true;
        }

        private boolean readCut() {
            reader.next();
            int a = reader.seePeer(plan);
            if (a == NONE) {
                return false;
            }
            reader.next();
            int b = reader.seePeer(plan);
            if (b == NONE) {
                return false;
            }
            if (a == b || facts.areCut(a, b)) {
                return reader.fail(F_NAME);
            }
            facts.turnLink(a, b);
            reader.next();
            return true;
        }
    }

    /** Reads a BOOK's text, judges its lines one by one, and keeps what was told of it. */
    private static final class Book {
        private final Reader reader;
        private final Plan plan;
        private final int[] sorts = new int[BOOK_LINES];
        private final int[] firsts = new int[BOOK_LINES];
        private final int[] seconds = new int[BOOK_LINES];
        private final int[] values = new int[BOOK_LINES];
        private int size = 0;
        private boolean judged = false;
        private int why = 0;
        int rightLines = 0;
        private int givenThen = 0;
        private int rootsThen = 0;

        Book(Reader reader, Plan plan) {
            this.reader = reader;
            this.plan = plan;
        }

        boolean read() {
            size = 0;
            for (int i = 0; i < TAPE_BYTES && reader.token != T_END; i++) {
                if (!readLine()) {
                    return false;
                }
            }
            return reader.isWhole();
        }

        private boolean readLine() {
            int sort = reader.word;
            if (sort < W_CUT || sort > W_HEAL) {
                return reader.fail(F_TOKEN);
            }
            if (size >= BOOK_LINES) {
                return reader.fail(F_MANY);
            }
            sorts[size] = sort;
            reader.next();
            int p = reader.seePeer(plan);
            if (p == NONE) {
                return false;
            }
            firsts[size] = p;
            reader.next();
            boolean ofKey = sort == W_PUT || sort == W_DROP;
            if (!(ofKey ? readKeyPart(sort) : readOtherPeer(p)) || !reader.passLineEnd()) {
                return false;
            }
            size++;
            return true;
        }

        private boolean readKeyPart(int sort) {
            int k = reader.seeKey(plan);
            if (k == NONE) {
                return false;
            }
            seconds[size] = k;
            reader.next();
            if (sort == W_DROP) {
                return true;
            }
            int value = reader.seeNumber(0, MOST_VALUE);
            if (value == NONE) {
                return false;
            }
            values[size] = value;
            reader.next();
            return true;
        }

        private boolean readOtherPeer(int p) {
            int other = reader.seePeer(plan);
            if (other == NONE) {
                return false;
            }
            if (other == p) {
                return reader.fail(F_NAME);
            }
            seconds[size] = other;
            reader.next();
            return true;
        }

        /** Lives the lines by some peers as far as none is wrong: the wrong line, or NONE. */
        int judge(Peers peers) {
            why = 0;
            rightLines = 0;
            for (int i = 0; i < size && why == 0; i++) {
                why = liveLine(peers, i);
                if (why == 0) {
                    rightLines++;
                }
            }
            judged = true;
            givenThen = peers.facts.given;
            rootsThen = peers.rootKinds();
            return why == 0 ? NONE : rightLines;
        }

        private int liveLine(Peers peers, int i) {
            int a = firsts[i];
            int b = seconds[i];
            switch (sorts[i]) {
                case W_PUT:
                    return whyOf(peers.tryPut(a, b, values[i]), 0);
                case W_DROP:
                    return whyOf(peers.tryDrop(a, b), 10);
                case W_PULL:
                    return whyOf(peers.tryPull(a, b), 20);
                case W_CUT:
                    return whyOf(peers.tryCut(a, b), 30);
                default:
                    return whyOf(peers.tryHeal(a, b), 40);
            }
        }

        private static int whyOf(int refusal, int tens) {
            return refusal == 0 ? 0 : tens + refusal;
        }

        int tell(int what) {
            if (!judged) {
                return NONE;
            }
            switch (what) {
                case 0:
                    return why;
                case 1:
                    return rightLines;
                case 2:
                    return givenThen;
                case 3:
                    return rootsThen;
                default:
                    return NONE;
            }
        }
    }

    /** A SENTENCE as codes behind what they work on: of each the word, from bit 8 on a sign, from bit 16 on a number. */
    private static final class Saying {
        final int[] codes = new int[3 * MOST_ONES];
        int size = 0;
        int ones = 0;

        void clear() {
            size = 0;
            ones = 0;
        }

        void copyFrom(Saying other) {
            System.arraycopy(other.codes, 0, codes, 0, 3 * MOST_ONES);
            size = other.size;
            ones = other.ones;
        }

        /** Reads a SENTENCE's text; with a fault what is here is free. */
        boolean read(Reader reader, Plan plan) {
            clear();
            if (!readCond(reader, plan, 1)) {
                return false;
            }
            return reader.token == T_END ? reader.isWhole() : reader.fail(F_TOKEN);
        }

        private boolean readCond(Reader reader, Plan plan, int within) {
            if (!readAll(reader, plan, within)) {
                return false;
            }
            for (int i = 0; i < TAPE_BYTES && reader.word == W_OR; i++) {
                reader.next();
                if (!readAll(reader, plan, within)) {
                    return false;
                }
                add(W_OR, 0, 0);
            }
            return true;
        }

        private boolean readAll(Reader reader, Plan plan, int within) {
            if (!readOne(reader, plan, within)) {
                return false;
            }
            for (int i = 0; i < TAPE_BYTES && reader.word == W_AND; i++) {
                reader.next();
                if (!readOne(reader, plan, within)) {
                    return false;
                }
                add(W_AND, 0, 0);
            }
            return true;
        }

        private boolean readOne(Reader reader, Plan plan, int within) {
            int word = reader.word;
            boolean bracket = reader.sign == '(';
            if (!bracket && (word < W_NOT || word > W_NUMBER)) {
                return reader.fail(F_TOKEN);
            }
            if (ones >= MOST_ONES || within > MOST_WITHIN) {
                return reader.fail(F_MANY);
            }
            ones++;
            reader.next();
            if (bracket) {
                return readCond(reader, plan, within + 1) && reader.passSign(')');
            }
            return word == W_NOT ? readDenied(reader, plan, within + 1) : readPlainOne(reader, plan, word);
        }

        private boolean readDenied(Reader reader, Plan plan, int within) {
            if (!readOne(reader, plan, within)) {
                return false;
            }
            add(W_NOT, 0, 0);
            return true;
        }

        private boolean readPlainOne(Reader reader, Plan plan, int word) {
            if (word == W_TORN) {
                add(word, 0, 0);
                return true;
            }
            if (word == W_HELD || word == W_GONE) {
                int p = reader.seePeer(plan);
                if (p == NONE) {
                    return false;
                }
                add(word, 0, p);
                reader.next();
                return true;
            }
            int sign = reader.sign;
            if (sign < '<' || sign > '>') {
                return reader.fail(F_TOKEN);
            }
            reader.next();
            int number = reader.seeNumber(0, MOST_VALUE);
            if (number == NONE) {
                return false;
            }
            reader.next();
            add(word, sign, number);
            return true;
        }

        private void add(int word, int sign, int number) {
            if (size < codes.length) {
                codes[size] = word | sign << 8 | number << 16;
                size++;
            }
        }

        /** What holds is stacked as bits: no more than 20 can wait at once. */
        boolean holdsOf(Peers peers, int k) {
            int stack = 0;
            for (int i = 0; i < size; i++) {
                int word = codes[i] & 255;
                int top = stack & 1;
                if (word == W_NOT) {
                    stack ^= 1;
                } else if (word == W_OR) {
                    stack = stack >>> 1 | top;
                } else if (word == W_AND) {
                    stack = stack >>> 1 & (top == 0 ? ~1 : ~0);
                } else {
                    stack = stack << 1 | (oneHolds(peers, k, codes[i]) ? 1 : 0);
                }
            }
            return (stack & 1) != 0;
        }

        private static boolean oneHolds(Peers peers, int k, int code) {
            int sign = code >>> 8 & 255;
            int number = code >>> 16;
            switch (code & 255) {
                case W_TORN:
                    return ((peers.tornBits() >>> k) & 1) != 0;
                case W_HELD:
                    return peers.facts.has(number, k) && !peers.facts.isGone(number, k);
                case W_GONE:
                    return peers.facts.isGone(number, k);
                case W_LEVEL:
                    return compares(peers.plan.levels[k], sign, number);
                case W_COPIES:
                    return compares(Integer.bitCount(peers.holderBits(k)), sign, number);
                case W_STAMP:
                    return compares(peers.greatestStamp(k), sign, number);
                default:
                    return compares(k, sign, number);
            }
        }

        private static boolean compares(int left, int sign, int right) {
            if (sign == '<') {
                return left < right;
            }
            return sign == '>' ? left > right : left == right;
        }
    }

    /** All that an image keeps: the CLUSTER, what is so, and the SENTENCE (none, if it has no ONES). */
    private static final class Scene {
        final Plan plan = new Plan();
        final Facts facts = new Facts();
        final Saying saying = new Saying();
        boolean filled = false;

        void copyFrom(Scene other) {
            plan.copyFrom(other.plan);
            facts.copyFrom(other.facts);
            saying.copyFrom(other.saying);
        }
    }
}
