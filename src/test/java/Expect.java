/** What a text is due to answer: the kind, the place and the LINE of its FAULT, or that it has none. */
final class Expect {
    static final int NONE = -1;
    static final String NAMES = "key a;key b;peer p;peer q;";

    private Expect() {
    }

    private static String name(String sort, String text) {
        return sort + " '" + (text.length() > 60 ? text.substring(0, 60) + ".." : text) + "'";
    }

    private static void faultIs(String what, TreePeers x, int kind, int line) {
        Check.is(what + " fault()", x.fault(), kind);
        Check.is(what + " faultLine()", x.faultLine(), line);
        Check.is(what + " tape", x.count(5), 0);
    }

    static void cluster(String text, int kind, int place, int line) {
        TreePeers x = new TreePeers();
        String what = name("cluster", text);
        Check.is(what, Check.cluster(x, text), -1 - place);
        faultIs(what, x, kind, line);
        Check.is(what + " stays", x.count(0) + x.count(1), 0);
    }

    static TreePeers good(String text, int lines) {
        TreePeers x = new TreePeers();
        String what = name("cluster", text);
        Check.is(what, Check.cluster(x, text), lines);
        faultIs(what, x, 0, NONE);
        return x;
    }

    /** Judged and lived by peers p and q without ENTRIES of keys a and b. */
    static void book(String text, int kind, int place, int line) {
        TreePeers x = Check.of(NAMES);
        for (int lives = 0; lives < 2; lives++) {
            String what = name("book", text);
            Check.is(what, Check.book(x, lives, text), -2 - place);
            faultIs(what, x, kind, line);
            Check.is(what + " told()", x.told(0), NONE);
            Check.is(what + " STAMPS", x.now(2), 0);
        }
    }

    static TreePeers goodBook(String text, int wrongLine) {
        TreePeers x = Check.of(NAMES);
        String what = name("book", text);
        Check.is(what, Check.book(x, 1, text), wrongLine);
        faultIs(what, x, 0, NONE);
        return x;
    }

    static void sentence(String text, int kind, int place) {
        TreePeers x = Check.of(NAMES);
        String what = name("sentence", text);
        Check.is(what, Check.sentence(x, text), -1 - place);
        faultIs(what, x, kind, 0);
        Check.is(what + " said()", x.said(NONE), NONE);
    }

    static TreePeers goodSentence(String text, int ones) {
        TreePeers x = Check.of(NAMES);
        String what = name("sentence", text);
        Check.is(what, Check.sentence(x, text), ones);
        faultIs(what, x, 0, NONE);
        return x;
    }

    /** The KEYS, by their numbers, of which the SENTENCE may be said. */
    static void said(TreePeers x, String text, int... keys) {
        String what = name("said", text);
        Check.is(what + " was read", Check.sentence(x, text) > 0, true);
        Check.is(what, x.said(NONE), keys.length);
        for (int i = 0; i < keys.length; i++) {
            Check.is(what + " " + i, x.said(i), keys[i]);
        }
        Check.is(what + " behind the last one", x.said(keys.length), NONE);
    }
}
