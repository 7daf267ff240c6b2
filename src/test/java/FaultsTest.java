/** FAULTS of the three sorts of texts: the kind, the place and the LINE of each. */
public final class FaultsTest {
    private static final String NAMES = Expect.NAMES;

    private FaultsTest() {
    }

    public static void main(String[] args) {
        tokens();
        settings();
        namesOfClusters();
        hasAndCut();
        tooMany();
        tooLongClusters();
        books();
        bookLimits();
        sentences();
        sentenceLimits();
        Check.end();
    }

    private static void tokens() {
        Expect.good("", 0);
        Expect.good(" \n ", 0);
        Expect.good("key\na ;\n", 1);
        Expect.good("key abcdefg;", 1);
        Expect.cluster("key abcdefgh;", 1, 4, 0);
        Expect.cluster("key a1;", 1, 4, 0);
        Expect.cluster("key 1;", 1, 4, 0);
        Expect.cluster("key 1a;", 1, 4, 0);
        Expect.cluster("key A;", 1, 4, 0);
        Expect.cluster("keyA;", 1, 3, 0);
        Expect.cluster("key\ta;", 1, 3, 0);
        Expect.cluster("key a\u0000;", 1, 5, 0);
        Expect.cluster("key \u00e9;", 1, 4, 0);
        Expect.cluster("key a", 1, 5, 0);
        Expect.cluster("key a  ", 1, 7, 0);
        Expect.cluster("key a; key", 1, 10, 1);
        Expect.cluster("key a;;", 1, 6, 1);
        Expect.cluster("key a b;", 1, 6, 0);
        Expect.cluster("a;", 1, 0, 0);
        Expect.cluster("5;", 1, 0, 0);
        Expect.cluster(".", 1, 0, 0);
        Expect.cluster("key.", 1, 3, 0);
        Expect.cluster("put p a 1;", 1, 0, 0);
        Expect.cluster("key a;peers b;", 1, 6, 1);
        Expect.cluster("key;", 1, 3, 0);
        Expect.cluster("key a<", 1, 5, 0);
    }

    private static void settings() {
        Expect.good("bits 1;page 1;rule late;", 3);
        Expect.good("rule most;page 12;bits 4;peer p;key k;", 5);
        Expect.good("bits 004;page 012;", 2);
        Expect.good("peer p;bits 1;", 2);
        Expect.cluster("bits 0;", 2, 5, 0);
        Expect.cluster("bits 5;", 2, 5, 0);
        Expect.cluster("bits 0004;", 1, 5, 0);
        Expect.cluster("page 0;", 2, 5, 0);
        Expect.cluster("page 13;", 2, 5, 0);
        Expect.cluster("page 13", 2, 5, 0);
        Expect.cluster("page x;", 1, 5, 0);
        Expect.cluster("rule x;", 1, 5, 0);
        Expect.cluster("rule bits;", 1, 5, 0);
        Expect.cluster("rule 1;", 1, 5, 0);
        Expect.cluster("rule ;", 1, 5, 0);
        Expect.cluster("bits 1;page 2;bits 0;", 3, 14, 2);
        Expect.cluster("page 1;page 1;", 3, 7, 1);
        Expect.cluster("rule late;rule late;", 3, 10, 1);
        Expect.cluster("key a;bits 9;", 3, 6, 1);
        Expect.cluster("key a;page 1;", 3, 6, 1);
        Expect.cluster("key a;rule most;", 3, 6, 1);
        Expect.cluster("key a;peer p;rule most;", 3, 13, 2);
    }

    private static void namesOfClusters() {
        String[] words = {"bits", "page", "rule", "late", "most", "least", "key", "peer", "has", "cut", "put", "drop", "pull", "heal",
            "or", "and", "not", "torn", "held", "gone", "level", "copies", "stamp", "number"};
        for (String w : words) {
            Expect.cluster("key " + w + ";", 1, 4, 0);
            Expect.cluster("peer x;peer " + w + ";", 1, 12, 1);
            Expect.cluster(NAMES + "has " + w + " a 1;", 1, 30, 4);
            Expect.good("key " + w.charAt(0) + ";peer x" + w.charAt(0) + ";", 2);
        }
        Expect.good("key lat;key lates;peer bit;peer ke;key keys;", 5);
        Expect.cluster("key a;key a;", 3, 10, 1);
        Expect.cluster("key a;peer a;", 3, 11, 1);
        Expect.cluster("peer a;peer a;", 3, 12, 1);
        Expect.cluster("peer a;key a;", 3, 11, 1);
    }

    private static void hasAndCut() {
        Expect.good(NAMES + "has p a 0;has q a 999;cut p q;", 7);
        Expect.cluster(NAMES + "has a a 1;", 3, 30, 4);
        Expect.cluster(NAMES + "has x a 1;", 3, 30, 4);
        Expect.cluster(NAMES + "has p q 1;", 3, 32, 4);
        Expect.cluster(NAMES + "has p x 1;", 3, 32, 4);
        Expect.cluster(NAMES + "has p 1 1;", 1, 32, 4);
        Expect.cluster(NAMES + "has p a b;", 1, 34, 4);
        Expect.cluster(NAMES + "has p a;", 1, 33, 4);
        Expect.cluster(NAMES + "has p a 1000;", 1, 34, 4);
        Expect.cluster(NAMES + "has p a 1;has q a 1;has p a 1;", 3, 52, 6);
        Expect.cluster("has p a 1;" + NAMES, 3, 4, 0);
        Expect.cluster(NAMES + "cut p p;", 3, 32, 4);
        Expect.cluster(NAMES + "cut p a;", 3, 32, 4);
        Expect.cluster(NAMES + "cut a p;", 3, 30, 4);
        Expect.cluster(NAMES + "cut p q;cut p q;", 3, 40, 5);
        Expect.cluster(NAMES + "cut p q;cut q p;", 3, 40, 5);
        Expect.cluster(NAMES + "cut p ;", 1, 32, 4);
    }

    private static String keys(int n) {
        StringBuilder s = new StringBuilder();
        for (int i = 0; i < n; i++) {
            s.append("key k").append((char) ('a' + i)).append(';');
        }
        return s.toString();
    }

    private static void tooMany() {
        Expect.good(keys(24), 24);
        Expect.cluster(keys(24) + "key kz;", 4, 168, 24);
        Expect.cluster(keys(24) + "key;", 4, 168, 24);
        Expect.cluster(keys(24) + "key ka;", 4, 168, 24);
        Expect.good("peer a;peer b;peer c;peer d;", 4);
        Expect.cluster("peer a;peer b;peer c;peer d; peer e;", 4, 29, 4);
        Expect.good("peer a;peer b;peer c;peer d;cut a b;cut a c;cut a d;cut b c;cut b d;cut c d;", 10);
    }

    /** TOKENS that begin ahead of byte 900 are read whole; what comes there or behind is none. */
    private static void tooLongClusters() {
        String blanks = " ".repeat(900);
        Expect.good(blanks, 0);
        Expect.cluster(blanks + " ", 1, 900, 0);
        Expect.cluster(blanks + "#", 1, 900, 0);
        Expect.good(" ".repeat(894) + "key a;", 1);
        Expect.cluster(" ".repeat(894) + "key a; ", 1, 900, 1);
        Expect.cluster(" ".repeat(895) + "key a;", 1, 900, 0);
        Expect.cluster(" ".repeat(895) + "key abcdefg;", 1, 900, 0);
        Expect.cluster(" ".repeat(895) + "key abcdefgh;", 1, 899, 0);
        Expect.cluster(" ".repeat(896) + "key a;", 1, 900, 0);
        Expect.cluster(" ".repeat(899) + "keys", 1, 899, 0);
        Expect.cluster(" ".repeat(899) + "key", 1, 900, 0);
        Expect.cluster(" ".repeat(894) + "bits 13;", 2, 899, 0);
        Expect.cluster(" ".repeat(895) + "bits 13;", 1, 900, 0);
        Expect.cluster("key a;key a;" + blanks, 3, 10, 1);
        Expect.cluster("key a;key b" + blanks, 1, 900, 1);
        Expect.cluster("key a;key b;" + blanks, 1, 900, 2);
    }

    private static void books() {
        Expect.book("key a;", 1, 0, 0);
        Expect.book("x", 1, 0, 0);
        Expect.book(";", 1, 0, 0);
        Expect.book("put p a 1", 1, 9, 0);
        Expect.book("put p a 1;put", 1, 13, 1);
        Expect.book("put p a;", 1, 7, 0);
        Expect.book("put p a 1000;", 1, 8, 0);
        Expect.book("put a a 1;", 3, 4, 0);
        Expect.book("put x a 1;", 3, 4, 0);
        Expect.book("put put a 1;", 1, 4, 0);
        Expect.book("put p q 1;", 3, 6, 0);
        Expect.book("put p late 1;", 1, 6, 0);
        Expect.book("drop p a 1;", 1, 9, 0);
        Expect.book("put p a 1;drop p c;", 3, 17, 1);
        Expect.book("pull p p;", 3, 7, 0);
        Expect.book("cut q q;", 3, 6, 0);
        Expect.book("heal p p;", 3, 7, 0);
        Expect.book("heal p b;", 3, 7, 0);
        Expect.book("pull p;", 1, 6, 0);
        Expect.book("pull p q 1;", 1, 9, 0);
        Expect.book("has p a 1;", 1, 0, 0);
        TreePeers x = Check.of(NAMES);
        Check.is("a BOOK may cut twice", Check.book(x, 0, "cut p q;cut q p;"), 1);
        Check.is("that is no FAULT", x.fault(), 0);
    }

    private static void bookLimits() {
        String drops = "drop p a;".repeat(40);
        TreePeers x = Check.of(NAMES);
        Check.is("40 LINES", Check.book(x, 0, drops), 0);
        Expect.book(drops + "drop p a;", 4, 360, 40);
        Expect.book(drops + "drop", 4, 360, 40);
        Expect.book(drops + "key", 1, 360, 40);
        Expect.book(drops + "x", 1, 360, 40);
        Check.is("400 bytes", Check.book(x, 0, " ".repeat(391) + "drop p a;"), 0);
        Check.is("400 blanks", Check.book(x, 0, " ".repeat(400)), -1);
        Expect.book(" ".repeat(401), 1, 400, 0);
        Expect.book(" ".repeat(391) + "drop p a; ", 1, 400, 1);
        Expect.book(" ".repeat(392) + "drop p a;", 1, 400, 0);
        Expect.book(" ".repeat(393) + "drop p ax", 1, 400, 0);
        Expect.book(" ".repeat(392) + "drop p ax;", 3, 399, 0);
    }

    private static void sentences() {
        Expect.sentence("", 1, 0);
        Expect.sentence("  ", 1, 2);
        Expect.sentence("a", 1, 0);
        Expect.sentence("key", 1, 0);
        Expect.sentence("torn;", 1, 4);
        Expect.sentence("torn torn", 1, 5);
        Expect.sentence("torn or", 1, 7);
        Expect.sentence("torn and ", 1, 9);
        Expect.sentence("or torn", 1, 0);
        Expect.sentence("torn and or torn", 1, 9);
        Expect.sentence("not", 1, 3);
        Expect.sentence("not and", 1, 4);
        Expect.sentence("(torn", 1, 5);
        Expect.sentence("torn)", 1, 4);
        Expect.sentence("()", 1, 1);
        Expect.sentence("(torn))", 1, 6);
        Expect.sentence("held", 1, 4);
        Expect.sentence("held torn", 1, 5);
        Expect.sentence("held a", 3, 5);
        Expect.sentence("gone nobody", 3, 5);
        Expect.sentence("gone 1", 1, 5);
        Expect.sentence("level 1", 1, 6);
        Expect.sentence("level = a", 1, 8);
        Expect.sentence("level = 1000", 1, 8);
        Expect.sentence("level (1)", 1, 6);
        Expect.sentence("level ; 1", 1, 6);
        Expect.sentence("level<", 1, 6);
        Expect.sentence("copies==1", 1, 7);
        Expect.sentence("1", 1, 0);
        Expect.sentence("not(torn)or\nlevel<1and held p", 1, 18);
        Expect.goodSentence("not(torn)or\nlevel<1 and held p", 5);
    }

    private static void sentenceLimits() {
        String twenty = "torn" + " or torn".repeat(19);
        Expect.goodSentence(twenty, 20);
        Expect.sentence(twenty + " or torn", 4, 160);
        Expect.sentence(twenty + " or not", 4, 160);
        Expect.sentence(twenty + " or (", 4, 160);
        Expect.sentence(twenty + " or x", 1, 160);
        Expect.sentence(twenty + " or", 1, 159);
        Expect.goodSentence("not ".repeat(7) + "torn", 8);
        Expect.sentence("not ".repeat(8) + "torn", 4, 32);
        Expect.sentence("not ".repeat(8) + "or", 1, 32);
        Expect.sentence("not ".repeat(9) + "torn", 4, 32);
        Expect.goodSentence("(".repeat(7) + "torn" + ")".repeat(7), 8);
        Expect.sentence("(".repeat(8) + "torn" + ")".repeat(8), 4, 8);
        Expect.sentence("(".repeat(9), 4, 8);
        Expect.sentence("(".repeat(8), 1, 8);
        Expect.goodSentence("(not(not(not torn)))or not not torn", 10);
        Expect.sentence("(not(not(not(not torn))))", 4, 17);
        Expect.goodSentence("(torn)and(torn)and(torn)and(torn)and(torn)and(torn)and(torn)and(torn)and(torn)and(torn)", 20);
        Expect.goodSentence(" ".repeat(196) + "torn", 1);
        Expect.sentence(" ".repeat(196) + "torn ", 1, 200);
        Expect.sentence(" ".repeat(197) + "torn", 1, 200);
        Expect.sentence(" ".repeat(197) + "tor", 1, 197);
        Expect.sentence(" ".repeat(199) + "held p", 1, 200);
        Expect.sentence(" ".repeat(194) + "held nobody", 3, 199);
        Expect.sentence(" ".repeat(195) + "held nobody", 1, 200);
        Expect.sentence("torn" + " ".repeat(197), 1, 200);
        Expect.sentence("torn torn" + " ".repeat(197), 1, 5);
    }
}
