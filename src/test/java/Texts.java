import java.util.ArrayList;
import java.util.List;
import java.util.Random;

/** Makes texts by a seed: mostly good ones, some spoilt a little, some too long. */
final class Texts {
    private static final String[] NAMES = {
        "a", "ab", "abc", "b", "ba", "c", "d", "e", "f", "g", "h", "ha", "i", "j", "k", "l", "m", "n", "o", "oa", "p",
        "q", "r", "s", "t", "u", "v", "w", "x", "y", "z", "za", "zz", "zzzzzzz", "abcdefg", "keys", "peers", "bit", "no", "lat"};
    private static final String[] ODD = {
        "bits", "page", "rule", "late", "most", "least", "key", "peer", "has", "cut", "put", "drop", "pull", "heal",
        "or", "and", "not", "torn", "held", "gone", "level", "copies", "stamp", "number",
        "0", "1", "5", "12", "13", "007", "999", "1000", "a1", "1a", "abcdefgh", "nobody", "A", ".", ",", "\t", "\u00e9", "\u0000",
        ";", "<", "=", ">", "(", ")", ""};

    private final Random random;
    final List<String> keys = new ArrayList<>();
    final List<String> peers = new ArrayList<>();

    Texts(Random random) {
        this.random = random;
    }

    private boolean chance(int percent) {
        return random.nextInt(100) < percent;
    }

    private String pick(List<String> from) {
        return from.isEmpty() || chance(1) ? NAMES[random.nextInt(NAMES.length)] : from.get(random.nextInt(from.size()));
    }

    /** Joins tokens with blanks where two would run into one, and now and then elsewhere. */
    private String join(List<String> tokens) {
        StringBuilder s = new StringBuilder();
        boolean tight = chance(70);
        for (String t : tokens) {
            boolean needed = s.length() > 0 && !t.isEmpty() && Character.isLetterOrDigit(s.charAt(s.length() - 1)) && Character.isLetterOrDigit(t.charAt(0));
            if (needed || !tight && chance(30)) {
                s.append(chance(80) ? ' ' : '\n');
            }
            s.append(t);
        }
        return s.toString();
    }

    private void spoil(List<String> tokens) {
        int changes = 1 + random.nextInt(2);
        for (int i = 0; i < changes && !tokens.isEmpty(); i++) {
            int at = random.nextInt(tokens.size());
            switch (random.nextInt(5)) {
                case 0:
                    tokens.remove(at);
                    break;
                case 1:
                    tokens.add(at, ODD[random.nextInt(ODD.length)]);
                    break;
                case 2:
                    tokens.add(at, tokens.get(random.nextInt(tokens.size())));
                    break;
                case 3:
                    tokens.subList(at, tokens.size()).clear();
                    break;
                default:
                    tokens.set(at, ODD[random.nextInt(ODD.length)]);
            }
        }
    }

    private void line(List<String> tokens, Object... words) {
        for (Object w : words) {
            tokens.add(w.toString());
        }
        tokens.add(";");
    }

    private void settings(List<String> t) {
        if (chance(70)) {
            line(t, "bits", 1 + random.nextInt(chance(70) ? 1 : 4));
        }
        if (chance(60)) {
            line(t, "page", 1 + random.nextInt(12));
        }
        if (chance(70)) {
            line(t, "rule", new String[] {"late", "most", "least"}[random.nextInt(3)]);
        }
    }

    String cluster(int goodPercent) {
        keys.clear();
        peers.clear();
        List<String> pool = new ArrayList<>(List.of(NAMES));
        java.util.Collections.shuffle(pool, random);
        List<String> t = new ArrayList<>();
        settings(t);
        int peerCount = chance(5) ? random.nextInt(6) : 2 + random.nextInt(3);
        int keyCount = chance(20) ? random.nextInt(27) : 3 + random.nextInt(15);
        for (int i = 0; i < peerCount + keyCount && !pool.isEmpty(); i++) {
            boolean key = i >= peerCount;
            String name = pool.remove(0);
            (key ? keys : peers).add(name);
            line(t, key ? "key" : "peer", name);
        }
        int has = keys.isEmpty() || peers.isEmpty() ? 0 : random.nextInt(30);
        for (String p : peers) {
            List<String> mine = new ArrayList<>(keys);
            java.util.Collections.shuffle(mine, random);
            for (int i = 0; i < mine.size() && i < has / 2; i++) {
                line(t, "has", p, mine.get(i), random.nextInt(chance(70) ? 4 : 1000));
            }
        }
        for (int i = 0; i < peers.size(); i++) {
            for (int j = 0; j < i; j++) {
                if (chance(12)) {
                    line(t, "cut", peers.get(i), peers.get(j));
                }
            }
        }
        if (!chance(goodPercent)) {
            spoil(t);
        }
        return pad(join(t), 900);
    }

    String book() {
        List<String> t = new ArrayList<>();
        int lines = chance(6) ? 38 + random.nextInt(5) : random.nextInt(9);
        for (int i = 0; i < lines; i++) {
            String a = pick(peers);
            String b = pick(peers);
            for (int j = 0; j < 5 && b.equals(a); j++) {
                b = pick(peers);
            }
            switch (random.nextInt(7)) {
                case 0:
                case 1:
                    line(t, "put", a, pick(keys), random.nextInt(chance(70) ? 5 : 1000));
                    break;
                case 2:
                    line(t, "drop", a, pick(keys));
                    break;
                case 3:
                case 4:
                    line(t, "pull", a, b);
                    break;
                case 5:
                    line(t, "cut", a, b);
                    break;
                default:
                    line(t, "heal", a, b);
            }
        }
        if (chance(25)) {
            spoil(t);
        }
        return pad(join(t), 400);
    }

    String sentence() {
        List<String> t = new ArrayList<>();
        cond(t, 1, chance(10) ? 10 : 4);
        if (chance(20)) {
            spoil(t);
        }
        return pad(join(t), 200);
    }

    private void cond(List<String> t, int within, int deepest) {
        for (int i = 0, n = 1 + random.nextInt(3); i < n; i++) {
            if (i > 0) {
                t.add(chance(50) ? "or" : "and");
            }
            one(t, within, deepest);
        }
    }

    private void one(List<String> t, int within, int deepest) {
        int sort = random.nextInt(within < deepest ? 11 : 7);
        switch (sort) {
            case 0:
                t.add("torn");
                break;
            case 1:
            case 2:
                t.add(sort == 1 ? "held" : "gone");
                t.add(pick(peers));
                break;
            case 7:
            case 8:
                t.add("not");
                one(t, within + 1, deepest);
                break;
            case 9:
            case 10:
                t.add("(");
                cond(t, within + 1, deepest);
                t.add(")");
                break;
            default:
                t.add(new String[] {"level", "copies", "stamp", "number"}[sort - 3]);
                t.add(new String[] {"<", "=", ">"}[random.nextInt(3)]);
                t.add("" + random.nextInt(chance(80) ? 8 : 40));
        }
    }

    /** Blanks ahead of a text now and then, so that it ends near the most bytes, or beyond them. */
    private String pad(String text, int most) {
        if (!chance(6)) {
            return text;
        }
        int blanks = Math.max(0, most - text.length() + random.nextInt(30) - 15);
        return chance(50) ? " ".repeat(blanks) + text : text + " ".repeat(blanks);
    }
}
