import java.util.NoSuchElementException;

/** Every call of TreePeers, once at least: a remark begins with the call's answer, and the program prints all answers. */
public final class Example {
    public static void main(String[] args) {
        TreePeers x = new TreePeers();

        // a CLUSTER: PEERS home 0, work 1, phone 2; KEYS milk 0, bread 1, eggs 2, tea 3
        feed(x, "bits 1; page 2; rule late; peer home; peer work; peer phone; key milk; key bread; key eggs; key tea;"
            + "has home milk 2; has home bread 1; has home eggs 6; has work tea 3; cut work phone;");
        show(x.count(5));           // 183: bytes of the tape
        show(x.cluster());          // 15: LINES
        show(x.count(0));           // 4: KEYS
        show(x.count(1));           // 3: PEERS

        // how all is
        show(x.key(0, 0));          // 1: LEVEL of milk
        show(x.key(0, 1));          // 2: its place in the order of names
        show(x.key(0, 2));          // 1: PEERS that have it, as bits
        show(x.digest(0));          // -666674426: its DIGEST
        show(x.peer(0, 0));         // 3: ENTRIES of home
        show(x.peer(0, 2));         // 2: NODES of its TREE
        show(x.root(0));            // -360464638: its ROOT
        show(x.entry(0, 2, 0));     // 6: the VALUE of eggs at home
        show(x.entry(0, 2, 1));     // 3: its STAMP
        show(x.node(0, 0, 1));      // 2: how many KEYS are in the first NODE of home
        show(x.node(0, 0, 2));      // 1: the first one of these
        show(x.path(0, 1));         // 1: NODES from the first one to that of bread
        show(x.now(2));             // 4: STAMPS that were given
        show(x.now(4));             // 3: different ROOTS

        // two PEERS
        show(x.visits(0, 1));       // 2: NODES of home that are VISITED against work
        show(x.differs(0, 1));      // 15: KEYS of which they have not the same, as bits
        show(x.offers(1, 0));       // 3: OFFERS that home has for work
        show(x.offerAt(0));         // 1: the first one's KEY
        show(x.pulls(1, 0));        // 3: PULLS till their ROOTS are alike
        show(x.fresh(0, 3, 5));     // 2: NODES anew, if home had tea 5
        show(x.mean(0, 0));         // 3: ENTRIES by NODES: above
        show(x.mean(0, 1));         // 2: and below
        show(x.part(0, 1, 0));      // 1: VISITED NODES by all NODES: above
        show(x.part(0, 1, 1));      // 1: and below

        // deeds: 0 is done, above 0 says why not
        show(x.put(0, 3, 5));       // 0: home has tea 5
        show(x.put(0, 3, 5));       // 1: it has that VALUE
        show(x.drop(0, 2));         // 0: eggs are GONE at home
        show(x.pull(1, 0));         // 0: work has two more ENTRIES, that is a page
        show(x.pull(1, 2));         // 1: they are CUT
        show(x.heal(1, 2));         // 0: not any more
        show(x.cut(0, 2));          // 0: home and phone are
        show(x.undo());             // 4: more deeds can be undone

        // a BOOK: LINES of deeds, judged (0) or lived (1)
        feed(x, "pull work home; put work milk 4; pull home work; drop phone tea;");
        show(x.book(0));            // 3: the LINE that is WRONG
        show(x.told(0));            // 11: dropping, as phone has no ENTRY of tea
        show(x.told(1));            // 3: LINES that are not WRONG
        feed(x, "pull work home; put work milk 4; pull home work;");
        show(x.book(1));            // -1: none is WRONG, all are lived
        show(x.now(0));             // 3: PULLS that were done
        show(x.undo());             // 4: the BOOK is undone; more deeds can be

        // a SENTENCE, said of KEYS
        feed(x, "torn and not ( gone home or level < 1 )");
        show(x.sentence());         // 5: ONES
        show(x.said(TreePeers.NONE)); // 2: KEYS of which it may be said
        show(x.said(0));            // 0: the first one

        // a TAG, byte by byte
        show(x.tag(0));             // 15: bytes
        System.out.println(tagText(x)); // home has 4 in 3

        // draws by a seed, and an image to come back to
        show(x.image(0));           // true: all is kept in place 0
        show(x.drawn(60, 2026));    // 60: ROUNDS
        show(x.refused(1));         // 20: deeds that were refused by 1
        show(x.odds(20, 160));      // 1: seeds of 20 by which all ROOTS are alike behind 20 ROUNDS
        show(x.restore(0));         // true: all is as it was
        show(x.undo());             // -1: nothing can be undone

        // a text with a FAULT changes nothing
        feed(x, "peer a; key b; has a c 1;");
        show(x.cluster());          // -22: -1 less its place
        show(x.fault());            // 3: its kind: a NAME that is not told
        show(x.faultLine());        // 2: its LINE

        // where there is nothing to tell, NONE is answered, or a NoSuchElementException thrown
        show(x.key(9, 0));          // -1: no such KEY
        try {
            show(x.root(9));
        } catch (NoSuchElementException e) {
            System.out.println("no such PEER"); // no such PEER
        }
    }

    /** The tape is a text of at most 940 bytes: twenty bytes come with a call, then what is behind the text is cut off. */
    private static void feed(TreePeers x, String text) {
        x.end(0);
        for (int i = 0; i < text.length(); i += 20) {
            x.feed(four(text, i), four(text, i + 4), four(text, i + 8), four(text, i + 12), four(text, i + 16));
        }
        x.end(text.length());
    }

    /** Four bytes of a text as an int, the highest first; 0 behind its end. */
    private static int four(String text, int from) {
        int number = 0;
        for (int i = from; i < from + 4; i++) {
            number = number << 8 | (i < text.length() ? text.charAt(i) : 0);
        }
        return number;
    }

    /** The latest TAG. */
    private static String tagText(TreePeers x) {
        StringBuilder text = new StringBuilder();
        for (int i = 0; x.byteAt(i) != TreePeers.NONE; i++) {
            text.append((char) x.byteAt(i));
        }
        return text.toString();
    }

    private static void show(int answer) {
        System.out.println(answer);
    }

    private static void show(boolean answer) {
        System.out.println(answer);
    }
}
