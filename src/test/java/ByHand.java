/** ROUNDS DRAWN by a seed, each deed done by a call of the face. */
final class ByHand {
    final TreePeers x;
    final int[] refused = new int[4];
    private long seed;

    ByHand(TreePeers x, int seed) {
        this.x = x;
        this.seed = seed;
    }

    private int draw(int n) {
        seed = (int) (seed * 1103515245L + 12345L);
        return (int) ((seed & 0xffffffffL) / 256 % n);
    }

    void rounds(int n) {
        for (int i = 0; i < n; i++) {
            int sort = draw(8);
            int p = draw(x.count(1));
            if (sort < 3) {
                int k = draw(x.count(0));
                count(sort < 2 ? x.put(p, k, draw(10)) : x.drop(p, k));
                continue;
            }
            int q = draw(x.count(1));
            if (sort < 7) {
                count(x.pull(p, q));
            } else if (x.cut(p, q) == 1) {
                x.heal(p, q);
            }
        }
    }

    /** NONE (two alike PEERS) is no refusal. */
    private void count(int why) {
        if (why > 0) {
            refused[why]++;
        }
    }
}
