/** FAULTS of the three sorts of texts: the kind, the place and the LINE of each. */
public final class FaultsTest {
    private static final String NAMES = "key a;key b;peer p;peer q;";

    private FaultsTest() {
    }

    public static void main(String[] args) {
        tokens();
        settings();
        namesOfClusters();
        hasAndCut();
        tooMany();
        tooLongClusters();
        books();
        bookLimits();
        sentences();
        sentenceLimits();
        Check.end();
    }

    private static void cluster(String text, int kind, int place, int line) {
        TreePeers x = new TreePeers();
        String what = "cluster '" + (text.length() > 60 ? text.substring(0, 60) + ".." : text) + "'";
        Check.is(what, Check.cluster(x, text), -1 - place);
        Check.is(what + " fault()", x.fault(), kind);
        Check.is(what + " faultLine()", x.faultLine(), line);
        Check.is(what + " tape", x.count(5), 0);
    }

    private static void good(String text, int lines) {
        TreePeers x = new TreePeers();
        String what = "cluster '" + (text.length() > 60 ? text.substring(0, 60) + ".." : text) + "'";
        Check.is(what, Check.cluster(x, text), lines);
        Check.is(what + " fault()", x.fault(), 0);
        Check.is(what + " faultLine()", x.faultLine(), -1);
    }

    private static void tokens() {
        good("", 0);
        good(" \n ", 0);
        good("key\na ;\n", 1);
        good("key abcdefg;", 1);
        cluster("key abcdefgh;", 1, 4, 0);
        cluster("key a1;", 1, 4, 0);
        cluster("key 1;", 1, 4, 0);
        cluster("key 1a;", 1, 4, 0);
        cluster("key A;", 1, 4, 0);
        cluster("keyA;", 1, 3, 0);
        cluster("key\ta;", 1, 3, 0);
        cluster("key a\u0000;", 1, 5, 0);
        cluster("key \u00e9;", 1, 4, 0);
        cluster("key a", 1, 5, 0);
        cluster("key a  ", 1, 7, 0);
        cluster("key a; key", 1, 10, 1);
        cluster("key a;;", 1, 6, 1);
        cluster("key a b;", 1, 6, 0);
        cluster("a;", 1, 0, 0);
        cluster("5;", 1, 0, 0);
        cluster(".", 1, 0, 0);
        cluster("key.", 1, 3, 0);
        cluster("put p a 1;", 1, 0, 0);
        cluster("key a;peers b;", 1, 6, 1);
        cluster("key;", 1, 3, 0);
        cluster("key a<", 1, 5, 0);
    }

    private static void settings() {
        good("bits 1;page 1;rule late;", 3);
        good("rule most;page 12;bits 4;peer p;key k;", 5);
        good("bits 004;page 012;", 2);
        good("peer p;bits 1;", 2);
        cluster("bits 0;", 2, 5, 0);
        cluster("bits 5;", 2, 5, 0);
        cluster("bits 0004;", 1, 5, 0);
        cluster("page 0;", 2, 5, 0);
        cluster("page 13;", 2, 5, 0);
        cluster("page 13", 2, 5, 0);
        cluster("page x;", 1, 5, 0);
        cluster("rule x;", 1, 5, 0);
        cluster("rule bits;", 1, 5, 0);
        cluster("rule 1;", 1, 5, 0);
        cluster("rule ;", 1, 5, 0);
        cluster("bits 1;page 2;bits 0;", 3, 14, 2);
        cluster("page 1;page 1;", 3, 7, 1);
        cluster("rule late;rule late;", 3, 10, 1);
        cluster("key a;bits 9;", 3, 6, 1);
        cluster("key a;page 1;", 3, 6, 1);
        cluster("key a;rule most;", 3, 6, 1);
        cluster("key a;peer p;rule most;", 3, 13, 2);
    }

    private static void namesOfClusters() {
        String[] words = {"bits", "page", "rule", "late", "most", "least", "key", "peer", "has", "cut", "put", "drop", "pull", "heal",
            "or", "and", "not", "torn", "held", "gone", "level", "copies", "stamp", "number"};
        for (String w : words) {
            cluster("key " + w + ";", 1, 4, 0);
            cluster("peer x;peer " + w + ";", 1, 12, 1);
            cluster(NAMES + "has " + w + " a 1;", 1, 30, 4);
            good("key " + w.charAt(0) + ";peer x" + w.charAt(0) + ";", 2);
        }
        good("key lat;key lates;peer bit;peer ke;key keys;", 5);
        cluster("key a;key a;", 3, 10, 1);
        cluster("key a;peer a;", 3, 11, 1);
        cluster("peer a;peer a;", 3, 12, 1);
        cluster("peer a;key a;", 3, 11, 1);
    }

    private static void hasAndCut() {
        good(NAMES + "has p a 0;has q a 999;cut p q;", 7);
        cluster(NAMES + "has a a 1;", 3, 30, 4);
        cluster(NAMES + "has x a 1;", 3, 30, 4);
        cluster(NAMES + "has p q 1;", 3, 32, 4);
        cluster(NAMES + "has p x 1;", 3, 32, 4);
        cluster(NAMES + "has p 1 1;", 1, 32, 4);
        cluster(NAMES + "has p a b;", 1, 34, 4);
        cluster(NAMES + "has p a;", 1, 33, 4);
        cluster(NAMES + "has p a 1000;", 1, 34, 4);
        cluster(NAMES + "has p a 1;has q a 1;has p a 1;", 3, 52, 6);
        cluster("has p a 1;" + NAMES, 3, 4, 0);
        cluster(NAMES + "cut p p;", 3, 32, 4);
        cluster(NAMES + "cut p a;", 3, 32, 4);
        cluster(NAMES + "cut a p;", 3, 30, 4);
        cluster(NAMES + "cut p q;cut p q;", 3, 40, 5);
        cluster(NAMES + "cut p q;cut q p;", 3, 40, 5);
        cluster(NAMES + "cut p ;", 1, 32, 4);
    }

    private static String keys(int n) {
        StringBuilder s = new StringBuilder();
        for (int i = 0; i < n; i++) {
            s.append("key k").append((char) ('a' + i)).append(';');
        }
        return s.toString();
    }

    private static void tooMany() {
        good(keys(24), 24);
        cluster(keys(24) + "key kz;", 4, 168, 24);
        cluster(keys(24) + "key;", 4, 168, 24);
        cluster(keys(24) + "key ka;", 4, 168, 24);
        good("peer a;peer b;peer c;peer d;", 4);
        cluster("peer a;peer b;peer c;peer d; peer e;", 4, 29, 4);
        good("peer a;peer b;peer c;peer d;cut a b;cut a c;cut a d;cut b c;cut b d;cut c d;", 10);
    }

    /** TOKENS that begin ahead of byte 900 are read whole; what comes there or behind is none. */
    private static void tooLongClusters() {
        String blanks = " ".repeat(900);
        good(blanks, 0);
        cluster(blanks + " ", 1, 900, 0);
        cluster(blanks + "#", 1, 900, 0);
        good(" ".repeat(894) + "key a;", 1);
        cluster(" ".repeat(894) + "key a; ", 1, 900, 1);
        cluster(" ".repeat(895) + "key a;", 1, 900, 0);
        cluster(" ".repeat(895) + "key abcdefg;", 1, 900, 0);
        cluster(" ".repeat(895) + "key abcdefgh;", 1, 899, 0);
        cluster(" ".repeat(896) + "key a;", 1, 900, 0);
        cluster(" ".repeat(899) + "keys", 1, 899, 0);
        cluster(" ".repeat(899) + "key", 1, 900, 0);
        cluster(" ".repeat(894) + "bits 13;", 2, 899, 0);
        cluster(" ".repeat(895) + "bits 13;", 1, 900, 0);
        cluster("key a;key a;" + blanks, 3, 10, 1);
        cluster("key a;key b" + blanks, 1, 900, 1);
        cluster("key a;key b;" + blanks, 1, 900, 2);
    }

    private static void book(String text, int kind, int place, int line) {
        TreePeers x = Check.of(NAMES);
        for (int lives = 0; lives < 2; lives++) {
            String what = "book '" + (text.length() > 60 ? text.substring(0, 60) + ".." : text) + "'";
            Check.is(what, Check.book(x, lives, text), -2 - place);
            Check.is(what + " fault()", x.fault(), kind);
            Check.is(what + " faultLine()", x.faultLine(), line);
            Check.is(what + " told()", x.told(0), -1);
            Check.is(what + " STAMPS", x.now(2), 0);
        }
    }

    private static void books() {
        book("key a;", 1, 0, 0);
        book("x", 1, 0, 0);
        book(";", 1, 0, 0);
        book("put p a 1", 1, 9, 0);
        book("put p a 1;put", 1, 13, 1);
        book("put p a;", 1, 7, 0);
        book("put p a 1000;", 1, 8, 0);
        book("put a a 1;", 3, 4, 0);
        book("put x a 1;", 3, 4, 0);
        book("put put a 1;", 1, 4, 0);
        book("put p q 1;", 3, 6, 0);
        book("put p late 1;", 1, 6, 0);
        book("drop p a 1;", 1, 9, 0);
        book("put p a 1;drop p c;", 3, 17, 1);
        book("pull p p;", 3, 7, 0);
        book("cut q q;", 3, 6, 0);
        book("heal p p;", 3, 7, 0);
        book("heal p b;", 3, 7, 0);
        book("pull p;", 1, 6, 0);
        book("pull p q 1;", 1, 9, 0);
        book("has p a 1;", 1, 0, 0);
        TreePeers x = Check.of(NAMES);
        Check.is("a BOOK may cut twice", Check.book(x, 0, "cut p q;cut q p;"), 1);
        Check.is("that is no FAULT", x.fault(), 0);
    }

    private static void bookLimits() {
        String drops = "drop p a;".repeat(40);
        TreePeers x = Check.of(NAMES);
        Check.is("40 LINES", Check.book(x, 0, drops), 0);
        book(drops + "drop p a;", 4, 360, 40);
        book(drops + "drop", 4, 360, 40);
        book(drops + "key", 1, 360, 40);
        book(drops + "x", 1, 360, 40);
        Check.is("400 bytes", Check.book(x, 0, " ".repeat(391) + "drop p a;"), 0);
        Check.is("400 blanks", Check.book(x, 0, " ".repeat(400)), -1);
        book(" ".repeat(401), 1, 400, 0);
        book(" ".repeat(391) + "drop p a; ", 1, 400, 1);
        book(" ".repeat(392) + "drop p a;", 1, 400, 0);
        book(" ".repeat(393) + "drop p ax", 1, 400, 0);
        book(" ".repeat(392) + "drop p ax;", 3, 399, 0);
    }

    private static void sentence(String text, int kind, int place) {
        TreePeers x = Check.of(NAMES);
        String what = "sentence '" + (text.length() > 60 ? text.substring(0, 60) + ".." : text) + "'";
        Check.is(what, Check.sentence(x, text), -1 - place);
        Check.is(what + " fault()", x.fault(), kind);
        Check.is(what + " faultLine()", x.faultLine(), 0);
        Check.is(what + " said()", x.said(-1), -1);
    }

    private static void goodSentence(String text, int ones) {
        TreePeers x = Check.of(NAMES);
        Check.is("sentence '" + text + "'", Check.sentence(x, text), ones);
        Check.is("fault()", x.fault(), 0);
        Check.is("faultLine()", x.faultLine(), -1);
    }

    private static void sentences() {
        sentence("", 1, 0);
        sentence("  ", 1, 2);
        sentence("a", 1, 0);
        sentence("key", 1, 0);
        sentence("torn;", 1, 4);
        sentence("torn torn", 1, 5);
        sentence("torn or", 1, 7);
        sentence("torn and ", 1, 9);
        sentence("or torn", 1, 0);
        sentence("torn and or torn", 1, 9);
        sentence("not", 1, 3);
        sentence("not and", 1, 4);
        sentence("(torn", 1, 5);
        sentence("torn)", 1, 4);
        sentence("()", 1, 1);
        sentence("(torn))", 1, 6);
        sentence("held", 1, 4);
        sentence("held torn", 1, 5);
        sentence("held a", 3, 5);
        sentence("gone nobody", 3, 5);
        sentence("gone 1", 1, 5);
        sentence("level 1", 1, 6);
        sentence("level = a", 1, 8);
        sentence("level = 1000", 1, 8);
        sentence("level (1)", 1, 6);
        sentence("level ; 1", 1, 6);
        sentence("level<", 1, 6);
        sentence("copies==1", 1, 7);
        sentence("1", 1, 0);
        sentence("not(torn)or\nlevel<1and held p", 1, 18);
        goodSentence("not(torn)or\nlevel<1 and held p", 5);
    }

    private static void sentenceLimits() {
        String twenty = "torn" + " or torn".repeat(19);
        goodSentence(twenty, 20);
        sentence(twenty + " or torn", 4, 160);
        sentence(twenty + " or not", 4, 160);
        sentence(twenty + " or (", 4, 160);
        sentence(twenty + " or x", 1, 160);
        sentence(twenty + " or", 1, 159);
        goodSentence("not ".repeat(7) + "torn", 8);
        sentence("not ".repeat(8) + "torn", 4, 32);
        sentence("not ".repeat(8) + "or", 1, 32);
        sentence("not ".repeat(9) + "torn", 4, 32);
        goodSentence("(".repeat(7) + "torn" + ")".repeat(7), 8);
        sentence("(".repeat(8) + "torn" + ")".repeat(8), 4, 8);
        sentence("(".repeat(9), 4, 8);
        sentence("(".repeat(8), 1, 8);
        goodSentence("(not(not(not torn)))or not not torn", 10);
        sentence("(not(not(not(not torn))))", 4, 17);
        goodSentence("(torn)and(torn)and(torn)and(torn)and(torn)and(torn)and(torn)and(torn)and(torn)and(torn)", 20);
        goodSentence(" ".repeat(196) + "torn", 1);
        sentence(" ".repeat(196) + "torn ", 1, 200);
        sentence(" ".repeat(197) + "torn", 1, 200);
        sentence(" ".repeat(197) + "tor", 1, 197);
        sentence(" ".repeat(199) + "held p", 1, 200);
        sentence(" ".repeat(194) + "held nobody", 3, 199);
        sentence(" ".repeat(195) + "held nobody", 1, 200);
        sentence("torn" + " ".repeat(197), 1, 200);
        sentence("torn torn" + " ".repeat(197), 1, 5);
    }
}
