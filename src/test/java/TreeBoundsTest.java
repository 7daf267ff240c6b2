import java.math.BigInteger;
import java.util.ArrayList;
import java.util.List;

/** Each sentence of Terms on digests, trees, rules and deeds: at its bounds, empty and full, wrapping, refused. */
public final class TreeBoundsTest {
    private static final int NONE = -1;
    /** NAMES by how many lowest bits of their DIGESTS are 0; no NAME of 1 to 7 letters has the DIGEST 0 (all were tried). */
    private static final String[] BY_ZEROS = {
        "b", "c", "a", "e", "ae", "m", "eu", "sv", "apa", "cib", "dfy", "lxs", "bxzp", "bc", "mqu", "nkv",
        "zer", "adrni", "bqyh", "pwdn", "trmk", "dxjiu", "mpanc", "ehnun", "jyzwrg", "anwrv", "buxvnr", "ayazpvl", "ajzondo", "aplemfu",
        "emdovqw", "sdxzvuj"};
    /** NAMES by their LEVELS by 'bits 1', so that each is alone ahead of or behind the next greater one, in turn: the deepest TREE. */
    private static final String[] DEEPEST = {
        "cb", "bkbxm", "djpkl", "bkbxk", "yvxew", "bkbxc", "yvxfg", "bkbvw", "yvxhb", "bkbss", "yvxtx", "bkazi",
        "ywbqfs", "bjzugz", "ywbufc", "bjzpzu", "ywcglp", "bjvtdk", "ywqzzm", "bjtnwj", "yycjix", "bgxwce", "zsmvcf", "bgcerl"};
    /** By 'bits 1' their LEVELS are 2 0 1 0 3 0 1 0 2 0 1 0 5 0 1 0 2 0 1 0 3 0 1 0. */
    private static final String LETTERS = "abcdefghijklmnopqrstuvwx";

    private TreeBoundsTest() {
    }

    public static void main(String[] args) {
        Check.runEach(TreeBoundsTest.class);
    }

    private static int mix(int x, int y) {
        BigInteger product = BigInteger.valueOf((x ^ y) & 0xffffffffL).multiply(BigInteger.valueOf(16777619));
        long low = product.mod(BigInteger.ONE.shiftLeft(32)).longValue();
        return (int) (low ^ low >> 15);
    }

    private static int digestOf(String name) {
        int x = -2128831035;
        for (int i = 0; i < name.length(); i++) {
            x = mix(x, name.charAt(i));
        }
        return x;
    }

    /** A CLUSTER of some settings, PEERS xx and yy, and KEYS of which PEER xx has the first ones with the VALUES 0, 1, .. */
    private static String cluster(String settings, int has, String... keys) {
        StringBuilder s = new StringBuilder(settings);
        s.append("peer xx;peer yy;");
        for (int k = 0; k < keys.length; k++) {
            s.append("key ").append(keys[k]).append(';');
            if (k < has) {
                s.append("has xx ").append(keys[k]).append(' ').append(k).append(';');
            }
        }
        return s.toString();
    }

    private static TreePeers of(String settings, String... keys) {
        return Check.of(cluster(settings, keys.length, keys));
    }

    private static String[] letters(String text) {
        return text.split("");
    }

    /** 24 KEYS of 24 LEVELS, 0 to 23, each in a NODE of its own below the one before; the first PEER has all. */
    private static TreePeers deepest(String settings) {
        return of("bits 1;" + settings, DEEPEST);
    }

    /** Of NODE i: its LEVEL, how many KEYS, the first, the last, NODES below, the NODE above. */
    private static void node(TreePeers x, int i, int level, int size, int first, int last, int below, int above) {
        int[] due = {level, size, first, last, below, above};
        for (int what = 0; what < 6; what++) {
            Check.is("12: node " + i + " what " + what, x.node(0, i, what), due[what]);
        }
    }

    // ---- DIGESTS and LEVELS

    /** Promise 8, by Terms: "All by ints, wrapping. To MIX x and y: x ^ y by 16777619; then that ^ itself >>> 15." */
    static void mixingWraps() {
        TreePeers x = of("", "sdxzvuj", "xtjofof", "emdovqw", "zzzzzzz", "aaaaaaa", "a");
        Check.is("8: the least int", x.digest(0), Integer.MIN_VALUE);
        Check.is("8: two KEYS may have like DIGESTS", x.digest(1), Integer.MIN_VALUE);
        Check.is("8: 30 zeros", x.digest(2), -1 << 30);
        Check.is("8: above", x.digest(3), digestOf("zzzzzzz"));
        Check.is("8: above", x.digest(4), digestOf("aaaaaaa"));
        Check.is("8: one byte", x.digest(5), mix(-2128831035, 97));
        Check.is("8: one byte", x.digest(5), -468852428);
    }

    /** Promise 8, by Terms: "DIGEST of a KEY: x, at first -2128831035, MIXED with each byte of its NAME." */
    static void digestsByteByByte() {
        String[] longer = {"a", "ab", "abc", "abcd", "abcde", "abcdef", "abcdefg"};
        TreePeers x = of("", longer);
        int due = -2128831035;
        for (int k = 0; k < 7; k++) {
            due = mix(due, 'a' + k);
            Check.is("8: " + longer[k], x.digest(k), due);
        }
    }

    /** Promise 7, by Terms: "LEVEL of a KEY: how many of the lowest bits of its DIGEST are 0 in a row (32 of 0), by 'bits', what is behind the whole left off." */
    static void levelsByBits() {
        for (int bits = 1; bits <= 4; bits++) {
            for (int half = 0; half < 2; half++) {
                StringBuilder s = new StringBuilder("bits " + bits + ";");
                for (int k = 0; k < 16; k++) {
                    s.append("key ").append(BY_ZEROS[16 * half + k]).append(';');
                }
                TreePeers x = Check.of(s.toString());
                for (int k = 0; k < 16; k++) {
                    int zeros = 16 * half + k;
                    Check.is("7: " + zeros + " zeros by " + bits, x.key(k, 0), (zeros - zeros % bits) / bits);
                    Check.is("8: its last 1", x.digest(k) & -x.digest(k), 1 << zeros);
                }
            }
        }
        TreePeers x = Check.of("key b;key c;key a;key e;key ae;key sdxzvuj;");
        int[] due = {0, 0, 1, 1, 2, 15};
        for (int k = 0; k < 6; k++) {
            Check.is("7: by 2 without", x.key(k, 0), due[k]);
        }
    }

    /** Promise 11, by Terms: "An ENTRY of a KEY at a PEER has a VALUE (GONE: -1) and a STAMP." */
    static void entriesHaveValueAndStamp() {
        TreePeers x = Check.of("key a;key b;peer p;peer q;has p a 0;has p b 999;");
        Check.is("11: VALUE 0", x.entry(0, 0, 0), 0);
        Check.is("11: STAMP 1", x.entry(0, 0, 1), 1);
        Check.is("11: VALUE 999", x.entry(0, 1, 0), 999);
        Check.is("11: STAMP 2", x.entry(0, 1, 1), 2);
        x.drop(0, 0);
        Check.is("11: GONE", x.entry(0, 0, 0), -1);
        Check.is("11: STAMP 3", x.entry(0, 0, 1), 3);
        Check.noSuch("11: at the other PEER there is none", () -> x.entry(1, 0, 0));
    }

    /** Promise 11, by Terms: "DIGEST of an ENTRY: that of its KEY MIXED with the STAMP, then with the VALUE and 1 (GONE: 0)." */
    static void digestsOfEntries() {
        TreePeers x = Check.of("key a;key sdxzvuj;peer p;has p a 0;has p sdxzvuj 999;");
        Check.is("11: VALUE 0", x.entry(0, 0, 2), mix(mix(digestOf("a"), 1), 1));
        Check.is("11: VALUE 999", x.entry(0, 1, 2), mix(mix(Integer.MIN_VALUE, 2), 1000));
        x.drop(0, 0);
        Check.is("11: GONE", x.entry(0, 0, 2), mix(mix(digestOf("a"), 3), 0));
    }

    /** Promise 7, by Terms: "KEYS are in order by their NAMES (byte by byte, the least first; who is the beginning of another one is ahead of it)." */
    static void keysInOrder() {
        String[] inOrder = {"a", "aa", "aaaaaa", "aaaaaaa", "aaaaaab", "aab", "ab", "az", "b", "ba", "y", "yzzzzzz", "z", "za", "zzzzzz", "zzzzzzz"};
        for (int step : new int[] {1, 3, 7, 15}) {
            StringBuilder s = new StringBuilder();
            for (int i = 0; i < 16; i++) {
                s.append("key ").append(inOrder[i * step % 16]).append(';');
            }
            TreePeers x = Check.of(s.toString());
            for (int i = 0; i < 16; i++) {
                Check.is("7: place of " + inOrder[i * step % 16], x.key(i, 1), i * step % 16);
            }
        }
        Check.is("7: of one", Check.of("key z;").key(0, 1), 0);
    }

    // ---- TREES

    /** Promise 9, by Terms: "The TREE of a PEER: of some KEYS in a row, of which it has ENTRIES (all, at first), those of the greatest LEVEL among them are in a NODE;" */
    static void nodesOfTheGreatestLevel() {
        TreePeers x = Check.of(cluster("bits 1;", 0, "a", "b"));
        Check.is("9: empty: no NODES", x.peer(0, 2), 0);
        Check.is("9: empty: no LEVEL", x.peer(0, 3), NONE);
        x.put(0, 1, 5);
        Check.is("9: one ENTRY, one NODE", x.peer(0, 2), 1);
        node(x, 0, 0, 1, 1, 1, 0, NONE);
        x.put(0, 0, 5);
        Check.is("9: a KEY of a greater LEVEL", x.peer(0, 2), 2);
        node(x, 0, 2, 1, 0, 0, 1, NONE);
        node(x, 1, 0, 1, 1, 1, 0, 0);
        x.drop(0, 0);
        Check.is("9: a GONE ENTRY is one, too", x.peer(0, 2), 2);
        TreePeers wide = of("bits 4;", letters("abcdefghijklnopqrstuvwxy"));
        Check.is("9: full: all of one LEVEL in one NODE", wide.peer(0, 2), 1);
        node(wide, 0, 0, 24, 0, 23, 0, NONE);
        TreePeers two = of("bits 1;", "sdxzvuj", "xtjofof");
        Check.is("9: two of LEVEL 31", two.peer(0, 2), 1);
        node(two, 0, 31, 2, 0, 1, 0, NONE);
    }

    /** Promise 12, by Terms: "those ahead of the first one, between two, behind the last one are likewise, if there are some, in NODES below it." */
    static void nodesAheadBetweenBehind() {
        TreePeers x = of("bits 1;", "i", "h");
        node(x, 0, 2, 1, 0, 0, 1, NONE);
        node(x, 1, 0, 1, 1, 1, 0, 0);
        x = of("bits 1;", "i", "j");
        node(x, 0, 2, 1, 0, 0, 1, NONE);
        node(x, 1, 0, 1, 1, 1, 0, 0);
        x = of("bits 1;", "q", "i");
        Check.is("9: none ahead, between, behind", x.peer(0, 2), 1);
        node(x, 0, 2, 2, 1, 0, 0, NONE);
        x = of("bits 1;", "q", "i", "j", "l");
        Check.is("9: some between alone", x.peer(0, 2), 2);
        node(x, 0, 2, 2, 1, 0, 1, NONE);
        node(x, 1, 0, 2, 2, 3, 0, 0);
        x = of("bits 1;", "y", "q", "i", "r", "h", "j", "z");
        Check.is("9: ahead, between, between, behind", x.peer(0, 2), 5);
        node(x, 0, 2, 3, 2, 0, 4, NONE);
        node(x, 1, 0, 1, 4, 4, 0, 0);
        node(x, 2, 0, 1, 5, 5, 0, 0);
        node(x, 3, 0, 1, 3, 3, 0, 0);
        node(x, 4, 0, 1, 6, 6, 0, 0);
    }

    /** Promise 12, by Terms: "are likewise, if there are some, in NODES below it." (24 LEVELS: the deepest TREE) */
    static void deepestTree() {
        TreePeers x = deepest("");
        Check.is("9: 24 NODES", x.peer(0, 2), 24);
        Check.is("9: LEVEL", x.peer(0, 3), 23);
        for (int i = 0; i < 24; i++) {
            node(x, i, 23 - i, 1, 23 - i, 23 - i, i < 23 ? 1 : 0, i == 0 ? NONE : i - 1);
        }
        Check.noSuch("12: no NODE 24", () -> x.node(0, 24, 0));
    }

    /** Promise 12, by Terms: "DIGEST of a NODE: x, at first its LEVEL and 1; KEY by KEY of it: MIXED with the DIGEST of the NODE below that is ahead of it (0: none), then with that of the ENTRY;" */
    static void digestsOfNodesKeyByKey() {
        TreePeers x = of("bits 1;", "q", "i", "j", "h");
        int ahead = mix(mix(mix(1, 0), x.entry(0, 3, 2)), 0);
        int between = mix(mix(mix(1, 0), x.entry(0, 2, 2)), 0);
        Check.is("12: LEVEL 0, none below", x.node(0, 1, 6), ahead);
        Check.is("12: LEVEL 0, none below", x.node(0, 2, 6), between);
        int due = mix(mix(3, ahead), x.entry(0, 1, 2));
        due = mix(mix(due, between), x.entry(0, 0, 2));
        Check.is("12: two KEYS", x.node(0, 0, 6), mix(due, 0));
        TreePeers top = of("bits 1;", "sdxzvuj");
        Check.is("12: LEVEL 31", top.node(0, 0, 6), mix(mix(mix(32, 0), top.entry(0, 0, 2)), 0));
    }

    /** Promise 12, by Terms: "at last with that of the NODE below behind all (0: none)." */
    static void digestsOfNodesBehindAll() {
        TreePeers x = of("bits 1;", "i", "j");
        int behind = mix(mix(mix(1, 0), x.entry(0, 1, 2)), 0);
        Check.is("12: one behind", x.node(0, 0, 6), mix(mix(mix(3, 0), x.entry(0, 0, 2)), behind));
        TreePeers deep = deepest("");
        for (int i = 0; i < 24; i++) {
            boolean ahead = i % 2 == 1;
            int below = i < 23 ? deep.node(0, i + 1, 6) : 0;
            int due = mix(mix(24 - i, ahead ? below : 0), deep.entry(0, 23 - i, 2));
            Check.is("12: node " + i, deep.node(0, i, 6), mix(due, ahead ? 0 : below));
        }
    }

    /** Promise 10, by Terms: "ROOT: the DIGEST of the first NODE; 0 without ENTRIES." */
    static void rootsOfNoneAndOfZero() {
        TreePeers x = Check.of("key amigek;peer p;peer q;has p amigek 56;");
        Check.is("10: without ENTRIES", x.root(1), 0);
        Check.is("12: a DIGEST may be 0, too", x.node(0, 0, 6), 0);
        Check.is("10: of the first NODE", x.root(0), 0);
        Check.is("9: so the ROOTS are the same", x.peer(0, 5), 3);
        Check.is("9: but not the NODES", x.peer(0, 2), 1);
        Check.is("13: one ROOT", x.now(4), 1);
        Check.is("13: torn", x.now(3), 1);
        Check.is("16: their ROOTS are alike", x.pull(1, 0), 2);
        Check.is("20: 0 is no NODE's at the other one", x.visits(0, 1), 1);
        Check.is("22: OFFERS", x.offers(1, 0), 1);
        Check.is("25: none till their ROOTS are alike", x.pulls(0, 1), 0);
        x.put(0, 0, 57);
        Check.is("10: the first NODE's", x.root(0), x.node(0, 0, 6));
        x.undo();
        x.undo();
        Check.is("10: 0", x.root(0), 0);
    }

    /** Promise 12, by Terms: "NODES are numbered from 0: one ahead of those below it, these from the first on, each with all below it." */
    static void numbersOfNodes() {
        TreePeers x = of("bits 1;", letters(LETTERS));
        String keys = "m e a c b d i g f h k j l u q o n p s r t w v x".replace(" ", "");
        int[] above = {NONE, 0, 1, 2, 3, 3, 1, 6, 7, 7, 6, 10, 10, 0, 13, 14, 15, 15, 14, 18, 18, 13, 21, 21};
        int[] below = {2, 2, 1, 2, 0, 0, 2, 2, 0, 0, 2, 0, 0, 2, 2, 2, 0, 0, 2, 0, 0, 2, 0, 0};
        int[] levels = {5, 3, 2, 1, 0, 0, 2, 1, 0, 0, 1, 0, 0, 3, 2, 1, 0, 0, 1, 0, 0, 1, 0, 0};
        Check.is("9: 24 NODES", x.peer(0, 2), 24);
        for (int i = 0; i < 24; i++) {
            int k = keys.charAt(i) - 'a';
            node(x, i, levels[i], 1, k, k, below[i], above[i]);
        }
    }

    // ---- PUTTING and DROPPING

    /** Promise 14, by Terms: "To PUT a VALUE of a KEY at a PEER: 1 it has that VALUE: its ENTRY is that, the STAMP the next one (from 1 on;" */
    static void puttingTakesTheNextStamp() {
        TreePeers x = Check.of("key a;peer p;peer q;");
        Check.is("13: none so far", x.now(2), 0);
        Check.is("14: the first", x.put(0, 0, 0), 0);
        Check.is("11: from 1 on", x.entry(0, 0, 1), 1);
        Check.is("14: it has that VALUE", x.put(0, 0, 0), 1);
        Check.is("13: no STAMP", x.now(2), 1);
        Check.is("11: its STAMP stays", x.entry(0, 0, 1), 1);
        Check.is("14: the other PEER has it not", x.put(1, 0, 0), 0);
        Check.is("11: the next one", x.entry(1, 0, 1), 2);
        Check.is("14: one more", x.put(0, 0, 1), 0);
        Check.is("11: the next one", x.entry(0, 0, 1), 3);
        x.drop(0, 0);
        Check.is("14: GONE is no VALUE that is PUT", x.put(0, 0, 1), 0);
        Check.is("11: the next one", x.entry(0, 0, 1), 5);
    }

    /** Promise 11, by Terms: "'has' likewise, in the order told)." */
    static void hasTakesStampsInTheOrderTold() {
        TreePeers x = Check.of("key a;key b;peer p;peer q;has q b 1;has p b 1;has q a 1;has p a 1;");
        Check.is("11: first", x.entry(1, 1, 1), 1);
        Check.is("11: second", x.entry(0, 1, 1), 2);
        Check.is("11: third", x.entry(1, 0, 1), 3);
        Check.is("11: fourth", x.entry(0, 0, 1), 4);
        Check.is("13: given", x.now(2), 4);
        x.put(0, 0, 2);
        Check.is("11: fifth", x.entry(0, 0, 1), 5);
    }

    /** Promise 15, by Terms: "To DROP it: 1 it has no ENTRY of it, or a GONE one: it is GONE, the STAMP the next one." */
    static void droppingNoneOrGone() {
        TreePeers x = Check.of("key a;key b;peer p;peer q;has p a 0;");
        Check.is("15: no ENTRY", x.drop(0, 1), 1);
        Check.is("15: no ENTRY there", x.drop(1, 0), 1);
        Check.is("13: no STAMP", x.now(2), 1);
        Check.is("15: VALUE 0", x.drop(0, 0), 0);
        Check.is("11: GONE", x.entry(0, 0, 0), -1);
        Check.is("11: the next one", x.entry(0, 0, 1), 2);
        Check.is("15: a GONE one", x.drop(0, 0), 1);
        Check.is("13: no STAMP", x.now(2), 2);
        Check.is("9: GONE", x.peer(0, 1), 1);
    }

    // ---- RULES, VISITS, OFFERS

    /** PEER p and q with an ENTRY of KEY b each, p's first; a makes the NODES unlike. Whether q's WINS, then whether p's does. */
    private static void wins(String rule, int p, int q, int toP, int toQ) {
        StringBuilder s = new StringBuilder("rule " + rule + ";key a;key b;peer p;peer q;");
        s.append("has p b ").append(Math.max(p, 0)).append(';');
        TreePeers x = Check.of(s.toString());
        if (p < 0) {
            x.drop(0, 1);
        }
        x.put(1, 1, Math.max(q, 0));
        if (q < 0) {
            x.drop(1, 1);
        }
        String what = rule + " " + p + " " + q;
        Check.is(what + " to p", x.offers(0, 1), toP);
        Check.is(what + " to q", x.offers(1, 0), toQ);
    }

    /** Promise 22, by Terms: "RULES by which one ENTRY WINS over another one: 'late': the greater STAMP, of like ones the greater VALUE;" */
    static void lateWins() {
        wins("late", 5, 4, 1, 0);
        wins("late", 5, 5, 1, 0);
        wins("late", 5, 6, 1, 0);
        wins("late", 0, -1, 1, 0);
        wins("late", -1, 0, 1, 0);
        wins("late", 999, 0, 1, 0);
        likeEntries("late");
    }

    /** Promise 22, by Terms: "'most': the greater VALUE, of like ones the greater STAMP;" */
    static void mostWins() {
        wins("most", 5, 4, 0, 1);
        wins("most", 5, 5, 1, 0);
        wins("most", 5, 6, 1, 0);
        wins("most", 0, -1, 0, 1);
        wins("most", -1, 0, 1, 0);
        wins("most", -1, -1, 1, 0);
        wins("most", 999, 0, 0, 1);
        wins("most", 998, 999, 1, 0);
        likeEntries("most");
    }

    /** Promise 22, by Terms: "'least': the lesser VALUE (GONE is more than all), of like ones the greater STAMP." */
    static void leastWins() {
        wins("least", 5, 4, 1, 0);
        wins("least", 5, 5, 1, 0);
        wins("least", 5, 6, 0, 1);
        wins("least", 0, -1, 0, 1);
        wins("least", -1, 0, 1, 0);
        wins("least", -1, 999, 1, 0);
        wins("least", 999, -1, 0, 1);
        wins("least", -1, -1, 1, 0);
        wins("least", 999, 0, 1, 0);
        likeEntries("least");
    }

    /** The same ENTRY WINS by no RULE, though its NODE is VISITED. */
    private static void likeEntries(String rule) {
        for (int gone = 0; gone < 2; gone++) {
            TreePeers x = Check.of("rule " + rule + ";key b;key d;peer p;peer q;has p b 7;");
            if (gone == 1) {
                x.drop(0, 0);
            }
            x.pull(1, 0);
            x.put(0, 1, 1);
            Check.is(rule + ": VISITED", x.visits(0, 1), 1);
            Check.is(rule + ": but d alone", x.offers(1, 0), 1);
            Check.is(rule + ": d", x.offerAt(0), 1);
            Check.is(rule + ": none the other way", x.offers(0, 1), 0);
        }
    }

    /** Promise 20, by Terms: "A NODE of a PEER is VISITED against another PEER, if its DIGEST is no NODE's there, and it is the first one, or the one above it is VISITED." */
    static void visitedNodes() {
        TreePeers x = Check.of("bits 1;page 12;key i;key j;key h;peer p;peer q;peer r;has p j 1;has p i 2;has p h 3;");
        Check.is("20: all against none", x.visits(0, 1), 3);
        Check.is("20: none against all", x.visits(1, 0), 0);
        x.put(1, 1, 9);
        x.pull(2, 1);
        x.put(2, 0, 9);
        Check.is("20: the first one is at the other below", x.visits(1, 2), 0);
        Check.is("20: the other's first is not", x.visits(2, 1), 1);
        Check.is("16: so there are no OFFERS", x.pull(2, 1), 3);
        TreePeers deep = deepest("page 12;");
        Check.is("20: 24 against none", deep.visits(0, 1), 24);
        deep.pull(1, 0);
        deep.pull(1, 0);
        Check.is("20: like ROOTS", deep.visits(0, 1), 0);
        for (int level = 0; level < 24; level += 23) {
            deep.put(0, level, 500);
            Check.is("20: from the first one down to LEVEL " + level, deep.visits(0, 1), 24 - level);
            deep.undo();
        }
    }

    /** Promise 20, by Terms: "if its DIGEST is no NODE's there," (the DIGEST decides, not what is in the NODE) */
    static void visitedByDigestsAlone() {
        TreePeers x = Check.of("key od;key iq;peer p;peer q;has p od 420;has q iq 0;");
        Check.is("10: like DIGESTS of unlike ENTRIES", x.root(0), x.root(1));
        Check.is("20: none VISITED", x.visits(0, 1), 0);
        Check.is("22: no OFFERS", x.offers(0, 1), 0);
        Check.is("16: like ROOTS", x.pull(0, 1), 2);
        Check.is("9: like ROOTS", x.peer(1, 5), 3);
        Check.is("13: one ROOT", x.now(4), 1);
        Check.is("13: yet torn", x.now(3), 3);
        Check.is("21: yet they differ", x.differs(0, 1), 3);
        Check.is("25: no PULLS", x.pulls(1, 0), 0);
        Check.is("28: PART", x.part(0, 1, 0), 0);
        TreePeers gone = Check.of("key od;key iq;peer p;peer q;has p od 419;");
        gone.put(1, 1, 0);
        gone.drop(1, 1);
        Check.is("11: the STAMP is another", gone.root(0) == gone.root(1), false);
    }

    /** Promise 20, by Terms: "and it is the first one, or the one above it is VISITED." (i's NODE, with j's below it, has the DIGEST of b's at q) */
    static void visitedBelowVisitedAlone() {
        TreePeers x = Check.of("bits 1;key b;key i;key j;key m;peer p;peer q;has p i 638;has p j 284;has q b 73;");
        Check.is("12: j is in a NODE below", x.node(0, 1, 2), 2);
        Check.is("10: like DIGESTS of unlike NODES", x.root(0), x.root(1));
        Check.is("12: below it another one", x.node(0, 1, 6) == x.root(1), false);
        Check.is("20: the first one is not, so none below is", x.visits(0, 1), 0);
        Check.is("22: no OFFERS", x.offers(1, 0), 0);
        Check.is("28: PART", x.part(0, 1, 0), 0);
        x.put(0, 3, 5);
        Check.is("12: m, i, j, each in a NODE below the one before", x.node(0, 2, 5), 1);
        Check.is("12: i's DIGEST stays", x.node(0, 1, 6), x.root(1));
        Check.is("20: the first one alone, as i's is not", x.visits(0, 1), 1);
        Check.is("28: one by three", x.part(0, 1, 1), 3);
        Check.is("22: m alone", x.offers(1, 0), 1);
        Check.is("23: m", x.offerAt(0), 3);
        x.put(0, 1, 639);
        Check.is("20: i's is, but j's is no NODE's at q, too", x.visits(0, 1), 3);
        Check.is("22: all", x.offers(1, 0), 3);
    }

    /** Promise 22, by Terms: "OFFERS of b to a: ENTRIES of KEYS in NODES of b that are VISITED against a, of which a has none, or one over which they WIN; in the order of KEYS." */
    static void offersInOrder() {
        TreePeers x = of("bits 1;page 12;", letters("xwvutsrqponmlkjihgfedcba"));
        Check.is("22: full", x.offers(1, 0), 24);
        for (int i = 0; i < 24; i++) {
            Check.is("23: by NAMES", x.offerAt(i), 23 - i);
        }
        Check.is("22: of none", x.offers(0, 1), 0);
        Check.is("23: none", x.offerAt(0), NONE);
        x.pull(1, 0);
        x.pull(1, 0);
        x.put(0, 23, 100);
        Check.is("22: one of which a has another", x.offers(1, 0), 1);
        x.put(1, 23, 200);
        Check.is("22: one over which it does not WIN", x.offers(1, 0), 0);
        Check.is("22: one over which it WINS", x.offers(0, 1), 1);
        Check.is("23: a", x.offerAt(0), 23);
    }

    // ---- PULLING, CUTTING, HEALING

    /** Promise 16, by Terms: "To PULL from b (to a): why not, the least: 1 they are CUT; 2 their ROOTS are alike; 3 there are no OFFERS:" */
    static void pullingRefusedByTheLeast() {
        TreePeers x = Check.of("key a;peer p;peer q;peer r;peer s;has s a 1;cut p q;cut p s;");
        Check.is("16: CUT and alike", x.pull(0, 1), 1);
        Check.is("16: CUT and without OFFERS", x.pull(3, 0), 1);
        Check.is("16: CUT", x.pull(0, 3), 1);
        Check.is("16: alike, both empty", x.pull(1, 2), 2);
        Check.is("16: no OFFERS", x.pull(3, 1), 3);
        Check.is("16: OFFERS", x.pull(1, 3), 0);
        Check.is("16: alike, and without OFFERS", x.pull(1, 3), 2);
        Check.is("13: one PULL", x.now(0), 1);
    }

    /** Promise 16, by Terms: "the first 'page' OFFERS (or all, if fewer) are a's ENTRIES, too, with their STAMPS." */
    static void pullingPageByPage() {
        for (int page = 1; page <= 12; page++) {
            for (int offers = Math.max(1, page - 1); offers <= page + 1; offers++) {
                TreePeers x = of("page " + page + ";", letters(LETTERS.substring(0, offers)));
                Check.is("16: PULLED", x.pull(1, 0), 0);
                int came = Math.min(page, offers);
                Check.is("13: OFFERS that came", x.now(1), came);
                Check.is("9: OFFERS that came", x.peer(1, 6), came);
                Check.is("9: ENTRIES", x.peer(1, 0), came);
                for (int k = 0; k < came; k++) {
                    Check.is("11: VALUE", x.entry(1, k, 0), k);
                    Check.is("11: with its STAMP", x.entry(1, k, 1), k + 1);
                }
                Check.is("16: the next one", x.pull(1, 0), offers > page ? 0 : 2);
                Check.is("9: all", x.peer(1, 0), offers);
            }
        }
    }

    /** Promise 17, by Terms: "To CUT two: 1 they are CUT: they are." */
    static void cuttingTwo() {
        TreePeers x = Check.of("peer p;peer q;peer r;");
        Check.is("17: they are not", x.cut(0, 1), 0);
        Check.is("9: q of p", x.peer(0, 4), 2);
        Check.is("9: p of q", x.peer(1, 4), 1);
        Check.is("9: none of r", x.peer(2, 4), 0);
        Check.is("17: they are", x.cut(0, 1), 1);
        Check.is("17: they are", x.cut(1, 0), 1);
        Check.is("17: others are not", x.cut(2, 1), 0);
        Check.is("9: both of q", x.peer(1, 4), 5);
    }

    /** Promise 18, by Terms: "To HEAL two: 1 they are not CUT: they are not any more." */
    static void healingTwo() {
        TreePeers x = Check.of("peer p;peer q;peer r;cut p q;");
        Check.is("18: not CUT", x.heal(0, 2), 1);
        Check.is("18: CUT", x.heal(1, 0), 0);
        Check.is("9: not any more", x.peer(0, 4), 0);
        Check.is("9: not any more", x.peer(1, 4), 0);
        Check.is("18: not CUT", x.heal(0, 1), 1);
        Check.is("17: again", x.cut(0, 1), 0);
        Check.is("18: again", x.heal(0, 1), 0);
    }

    // ---- FRESH, PULLS, PATH

    /** Promise 24, by Terms: "FRESH of a PUT: how many NODES the TREE would have then (the STAMP would be the next one) whose DIGEST is no NODE's of it now (0: it has that VALUE)." */
    static void freshFromNoneToAll() {
        TreePeers x = deepest("");
        Check.is("24: it has that VALUE", x.fresh(0, 0, 0), 0);
        Check.is("24: the deepest: all", x.fresh(0, 0, 1), 24);
        Check.is("24: the one above", x.fresh(0, 1, 0), 23);
        Check.is("24: the first: one", x.fresh(0, 23, 0), 1);
        Check.is("24: the first: it has that VALUE", x.fresh(0, 23, 23), 0);
        Check.is("24: an empty TREE", x.fresh(1, 0, 0), 1);
        Check.is("13: nothing is PUT", x.now(2), 24);
        TreePeers wide = of("bits 4;", letters("abcdefghijklnopqrstuvwxy"));
        Check.is("24: one NODE", wide.fresh(0, 5, 77), 1);
        TreePeers split = Check.of(cluster("bits 1;", 2, "b", "d", "c"));
        Check.is("24: a NODE is parted", split.fresh(0, 2, 5), 3);
        TreePeers above = Check.of(cluster("bits 1;", 2, "b", "d", "e"));
        Check.is("24: a NODE comes below as it is", above.fresh(0, 2, 5), 1);
        above.drop(0, 0);
        Check.is("24: a GONE one has no VALUE", above.fresh(0, 0, 0), 1);
    }

    /** Promise 24, by Terms: "(the STAMP would be the next one)" */
    static void freshAsPutThen() {
        for (int k = 0; k < 24; k++) {
            TreePeers x = Check.of(cluster("bits 1;", 12, letters("acegikmoqsuwbdfhjlnprtvx")));
            List<Integer> before = new ArrayList<>();
            for (int i = 0; i < x.peer(0, 2); i++) {
                before.add(x.node(0, i, 6));
            }
            int fresh = x.fresh(0, k, 11);
            int why = x.put(0, k, 11);
            Check.is("14: the twelfth has it", why, k == 11 ? 1 : 0);
            int due = 0;
            for (int i = 0; i < x.peer(0, 2); i++) {
                due += before.contains(x.node(0, i, 6)) ? 0 : 1;
            }
            Check.is("24: of KEY " + k, fresh, due);
        }
    }

    /** Promise 25, by Terms: "PULLS of a and b: how many there are, a from b, b from a, and so on in turn (one that can not be counts, too), till their ROOTS are alike." */
    static void pullsFromNoneTo48() {
        TreePeers x = of("page 1;", letters(LETTERS));
        Check.is("25: the first can not be, nor each second", x.pulls(0, 1), 48);
        Check.is("25: the first can be", x.pulls(1, 0), 47);
        x = of("page 12;", letters(LETTERS));
        Check.is("25: two pages", x.pulls(1, 0), 3);
        Check.is("25: two pages", x.pulls(0, 1), 4);
        x.pull(1, 0);
        Check.is("25: one page", x.pulls(1, 0), 1);
        Check.is("25: one page", x.pulls(0, 1), 2);
        x.pull(1, 0);
        Check.is("25: ROOTS alike", x.pulls(0, 1), 0);
        Check.is("25: both empty", Check.of("peer p;peer q;").pulls(0, 1), 0);
        Check.is("13: nothing was PULLED by it", x.now(0), 2);
    }

    /** Promise 25, by Terms: "till their ROOTS are alike." (they never are: below m, iq at q and od at p have NODES of like DIGESTS) */
    static void pullsWithoutEnd() {
        TreePeers x = Check.of("key iq;key m;key od;peer p;peer q;has p od 420;has q iq 0;has p m 5;");
        Check.is("16: m alone is offered", x.pull(1, 0), 0);
        Check.is("9: two ENTRIES", x.peer(1, 0), 2);
        Check.is("12: like DIGESTS below", x.node(0, 1, 6), x.node(1, 1, 6));
        Check.is("13: two ROOTS", x.now(4), 2);
        Check.is("20: the first NODE alone", x.visits(0, 1), 1);
        Check.is("28: a half", x.part(0, 1, 1), 2);
        Check.is("16: no OFFERS", x.pull(0, 1), 3);
        Check.is("16: no OFFERS", x.pull(1, 0), 3);
        Check.is("25: not in 100", x.pulls(0, 1), NONE);
        Check.is("25: not in 100", x.pulls(1, 0), NONE);
    }

    /** Promise 26, by Terms: "PATH of a KEY at a PEER: how many NODES from the first one to the one that has it." */
    static void pathsFromOneTo24() {
        TreePeers x = deepest("");
        for (int k = 0; k < 24; k++) {
            Check.is("26: LEVEL " + k, x.path(0, k), 24 - k);
            Check.is("26: q has none", x.path(1, k), NONE);
        }
    }

    // ---- fractions, TAGS, draws

    /** Promise 27, by Terms: "MEAN of a PEER: ENTRIES by NODES." */
    static void meansFromOneTo24() {
        mean(of("bits 4;", letters("abcdefghijklnopqrstuvwxy")), 24, 1);
        mean(deepest(""), 1, 1);
        mean(of("", "b"), 1, 1);
        mean(of("", "b", "d", "a"), 3, 2);
        mean(of("", "b", "d", "a", "f"), 2, 1);
    }

    private static void mean(TreePeers x, int above, int below) {
        Check.is("27: above", x.mean(0, 0), above);
        Check.is("27: below", x.mean(0, 1), below);
    }

    /** Promise 28, by Terms: "PART of a PEER against another one: NODES that are VISITED by all NODES." */
    static void partsFromNoneToAll() {
        TreePeers x = deepest("page 12;");
        part(x, 1, 1);
        x.pull(1, 0);
        x.pull(1, 0);
        part(x, 0, 1);
        x.put(0, 23, 0);
        part(x, 1, 24);
        x.undo();
        x.put(0, 20, 0);
        part(x, 1, 6);
        x.put(0, 8, 0);
        part(x, 2, 3);
        x.put(0, 1, 0);
        part(x, 23, 24);
        x.put(0, 0, 1);
        part(x, 1, 1);
    }

    private static void part(TreePeers x, int above, int below) {
        Check.is("28: above", x.part(0, 1, 0), above);
        Check.is("28: below", x.part(0, 1, 1), below);
    }

    /** Promise 29, by Terms: "TAG of a PEER: its NAME, ' has ', how many ENTRIES, ' in ', how many NODES, as digits; then ' cut ' and the NAME of the first PEER from which it is CUT, if there is one." */
    static void tagsFromShortToLong() {
        TreePeers x = Check.of("peer p;");
        Check.text("29: the shortest", Check.tag(x, 0), "p has 0 in 0");
        StringBuilder s = new StringBuilder("bits 4;peer zzzzzzz;peer b;peer aaaaaaa;peer c;cut zzzzzzz c;cut zzzzzzz aaaaaaa;cut aaaaaaa c;");
        for (char c : "abcdefghijklnopqrstuvwxy".toCharArray()) {
            s.append("key x").append(c).append(';');
        }
        TreePeers y = Check.of(s.toString());
        for (int k = 0; k < 24; k++) {
            Check.text("29: digits", Check.tag(y, 1), "b has " + k + " in " + y.peer(1, 2));
            y.put(1, k, 5);
        }
        Check.text("29: digits", Check.tag(y, 1), "b has 24 in " + y.peer(1, 2));
        Check.text("29: the first one by number", Check.tag(y, 0), "zzzzzzz has 0 in 0 cut aaaaaaa");
        Check.text("29: the first one is ahead", Check.tag(y, 2), "aaaaaaa has 0 in 0 cut zzzzzzz");
        Check.text("29: the first of two", Check.tag(y, 3), "c has 0 in 0 cut zzzzzzz");
    }

    /** Promise 30, by Terms: "then ' cut ' and the NAME of the first PEER from which it is CUT, if there is one." (the longest TAG) */
    static void longestTag() {
        TreePeers deep = Check.of(cluster("bits 1;", 0, DEEPEST).replace("peer xx;peer yy;", "peer ppppppp;peer qqqqqqq;cut qqqqqqq ppppppp;"));
        for (int k = 0; k < 24; k++) {
            deep.put(1, k, 1);
        }
        String tag = Check.tag(deep, 1);
        Check.text("29: the longest", tag, "qqqqqqq has 24 in 24 cut ppppppp");
        Check.is("29: its bytes", deep.tag(1), 32);
        Check.is("30: its last byte", deep.byteAt(31), 'p');
        Check.is("30: none behind it", deep.byteAt(32), NONE);
    }

    /** Promise 31, by Terms: "DRAWN by a seed x: for each draw of n x becomes x * 1103515245 + 12345 (an int, wrapping), the draw is (x >>> 8) % n:" */
    static void drawsWrap() {
        String text = "page 2;key a;key b;key c;key d;key e;key f;key g;peer p;peer q;peer r;has p a 3;has q c 4;";
        for (int seed : new int[] {0, 1, -1, 2, 12345, 256, -256, Integer.MAX_VALUE, Integer.MAX_VALUE - 1, Integer.MIN_VALUE, Integer.MIN_VALUE + 1}) {
            TreePeers x = Check.of(text);
            ByHand hand = new ByHand(Check.of(text), seed);
            Check.is("31: 60 ROUNDS", x.drawn(60, seed), 60);
            hand.rounds(60);
            Check.text("31: by seed " + seed, Dump.stateOf(x), Dump.stateOf(hand.x));
            for (int why = 1; why <= 3; why++) {
                Check.is("32: refused by " + why, x.refused(why), hand.refused[why]);
            }
        }
    }

    /** Promise 31, by Terms: "each ROUND (no PEERS, or no KEYS: nothing is drawn): a draw of 8: 0, 1: draws of all PEERS, of all KEYS, of 10: so much is PUT there; 2: of all PEERS, of all KEYS: it is DROPPED;" */
    static void roundsOfOneOrNone() {
        Check.is("31: no PEERS", Check.of("key a;").drawn(60, 1), 0);
        Check.is("31: no KEYS", Check.of("peer p;peer q;").drawn(60, 1), 0);
        Check.is("31: neither", new TreePeers().drawn(60, 1), 0);
        for (int round = 0; round < 8; round++) {
            roundOf("key a;peer p;", round);
            roundOf("key a;key b;key c;peer p;peer q;peer r;peer s;has p a 1;has q b 2;has r c 3;has s a 4;", round);
        }
    }

    /** Promise 31, by Terms: "3 to 6: of all PEERS, again of all: the first PULLS from the second; 7: likewise: they are CUT, or, if they are, HEALED (each, if they are unlike, and it can be)." */
    static void roundsOfTwo() {
        for (int round = 3; round < 8; round++) {
            roundOf("key a;key b;peer p;peer q;has p a 1;has q b 2;", round);
            roundOf("key a;key b;peer p;peer q;has p a 1;has q b 2;cut p q;", round);
            roundOf("key a;peer p;", round);
        }
    }

    /** One ROUND by twenty seeds whose first draw of 8 is the one that is meant. */
    private static void roundOf(String text, int round) {
        int found = 0;
        for (int seed = 0; seed < 2000 && found < 20; seed++) {
            int x = (int) (seed * 1103515245L + 12345L);
            if ((x >>> 8) % 8 == round) {
                found++;
                TreePeers drawn = Check.of(text);
                ByHand hand = new ByHand(Check.of(text), seed);
                Check.is("31: one ROUND", drawn.drawn(1, seed), 1);
                hand.rounds(1);
                Check.text("31: a " + round + " by seed " + seed, Dump.stateOf(drawn), Dump.stateOf(hand.x));
                for (int why = 1; why <= 3; why++) {
                    Check.is("32: refused by " + why, drawn.refused(why), hand.refused[why]);
                }
            }
        }
        Check.is("seeds with " + round, found, 20);
    }

    /** Promise 27, by Terms: "All fractions are told by two numbers: 0 above, 1 below, in least terms." */
    static void fractionsInLeastTerms() {
        TreePeers x = of("bits 4;", letters("bdfhjlm"));
        Check.is("27: 7 by 2", x.mean(0, 0), 7);
        Check.is("27: 7 by 2", x.mean(0, 1), 2);
        x = of("bits 4;", letters("bdfhjm"));
        Check.is("27: 6 by 2 is 3 by 1", x.mean(0, 0), 3);
        Check.is("27: 6 by 2 is 3 by 1", x.mean(0, 1), 1);
        TreePeers y = of("page 12;", "m");
        y.pull(1, 0);
        Check.is("28: 0 by 1", y.part(0, 1, 0), 0);
        Check.is("28: 0 by 1", y.part(0, 1, 1), 1);
        for (int what : new int[] {-1, 2, Integer.MIN_VALUE, Integer.MAX_VALUE}) {
            Check.noSuch("27: no number " + what, () -> y.mean(0, what));
            Check.noSuch("28: no number " + what, () -> y.part(0, 1, what));
        }
    }

    /** Promise 4, by Terms: "A new CLUSTER: no SENTENCE; nothing can be undone." */
    static void newClusterForgets() {
        TreePeers x = Check.of("key a;peer p;");
        Check.sentence(x, "torn");
        x.put(0, 0, 1);
        Check.is("4: a FAULT is no new CLUSTER", Check.cluster(x, "key"), -4);
        Check.is("37: the SENTENCE stays", x.said(NONE), 0);
        Check.is("4: a new one, though alike", Check.cluster(x, "key a;peer p;"), 2);
        Check.is("37: no SENTENCE", x.said(NONE), NONE);
        Check.is("19: nothing can be undone", x.undo(), NONE);
        Check.is("9: as it is told", x.peer(0, 0), 0);
        Check.sentence(x, "torn");
        x.put(0, 0, 1);
        Check.is("4: an empty one", Check.cluster(x, ""), 0);
        Check.is("37: no SENTENCE", x.said(NONE), NONE);
        Check.is("19: nothing can be undone", x.undo(), NONE);
    }

    /** Promise 8, by Terms: "A call that throws changes nothing." */
    static void throwingChangesNothing() {
        Check.Maker maker = () -> {
            TreePeers x = Check.of("key a;key b;key c;peer p;peer q;peer r;has p a 1;has q b 2;cut p r;");
            x.put(0, 1, 5);
            x.pull(1, 0);
            x.drop(1, 0);
            x.offers(0, 1);
            x.tag(0);
            x.drawn(3, 3);
            x.image(1);
            Check.sentence(x, "held p");
            Check.book(x, 0, "cut p q;cut p q;");
            Check.feed(x, "key");
            return x;
        };
        Check.leaves("8: digest", maker, x -> Check.noSuch("8", () -> x.digest(3)));
        Check.leaves("10: root", maker, x -> Check.noSuch("10", () -> x.root(3)));
        Check.leaves("11: entry", maker, x -> Check.noSuch("11", () -> x.entry(0, 3, 0)));
        Check.leaves("11: entry", maker, x -> Check.noSuch("11", () -> x.entry(0, 0, 3)));
        Check.leaves("12: node", maker, x -> Check.noSuch("12", () -> x.node(0, 24, 0)));
        Check.leaves("27: mean", maker, x -> Check.noSuch("27", () -> x.mean(3, 0)));
        Check.leaves("28: part", maker, x -> Check.noSuch("28", () -> x.part(1, 1, 0)));
    }
}
