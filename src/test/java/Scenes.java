/** Beginnings that several tests share. */
final class Scenes {
    static final int PAY = 0;
    static final int OFFER = 1;
    static final int COIN = 0;
    static final int SHARE = 1;
    static final int BUY = 0;
    static final int SELL = 1;
    static final int ALL_BALLOTS = (1 << 28) - 1;

    private Scenes() {
    }

    /** All nodes are good, and each trusts itself alone: what it proposes it externalizes at once. */
    static TrustLedger loners() {
        TrustLedger t = new TrustLedger(0);
        for (int v = 0; v < 5; v++) {
            Check.due("trust of a loner", t.trust(v, 1, 1 << v, 0, 0), true);
        }
        return t;
    }

    /** Node 0 alone is good; all trust 4 of the five: two accepting others block, three confirm. */
    static TrustLedger oneGood() {
        return new TrustLedger(0b11110);
    }

    /** The faulty nodes 1 .. count say the same of slot 0 to node 0. */
    static void tellZero(TrustLedger t, int count, int values, int prepare, int commit) {
        for (int u = 1; u <= count; u++) {
            Check.due("deliver of a forged one", t.deliver(t.forge(u, 0, values, prepare, commit), 0), true);
        }
    }

    /** Each node of the set posts once what it has of the slot, and each other good one gets it. */
    static void exchange(TrustLedger t, int slot, int set) {
        for (int v = 0; v < 5; v++) {
            if ((set >> v & 1) == 1) {
                int k = t.post(v, slot);
                for (int u = 0; u < 5; u++) {
                    t.deliver(k, u);
                }
            }
        }
    }

    static int bit(int counter, int value) {
        return 1 << 7 * (counter - 1) + value - 1;
    }

    static int offered(int account, int side, int price, int amount) {
        return account + 4 * side + 16 * price + 256 * amount;
    }
}
