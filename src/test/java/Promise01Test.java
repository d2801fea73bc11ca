/** Promise 1: a new object, its faulty nodes, and what all have at first. */
public final class Promise01Test {
    public static void main(String[] args) {
        beginsEmpty();
        looksAtFiveBits();
        trustsFourOfFiveAtFirst();
        blocksWithTwoAtFirst();
        Check.end();
    }

    private static void beginsEmpty() {
        TrustLedger t = new TrustLedger(0);
        Check.due("NONE", TrustLedger.NONE, -1);
        Check.due("envelopes()", t.envelopes(), 0);
        for (int v = 0; v < 5; v++) {
            Check.due("header", t.header(v), 0);
            Check.due("offer", t.offer(v, 0), -1);
            for (int what = 0; what < 6; what++) {
                Check.due("state " + what, t.state(v, what), 0);
            }
            for (int a = 0; a < 4; a++) {
                Check.due("coins", t.balance(v, a, 0), 100);
                Check.due("shares", t.balance(v, a, 1), 20);
            }
            for (int i = 0; i < 27; i++) {
                Check.due("statements", t.statements(v, i / 9, i / 3 % 3, i % 3), 0);
            }
        }
    }

    private static void looksAtFiveBits() {
        int[] sets = {0, 1, 6, 31, -1, 32, 34, ~31, Integer.MIN_VALUE};
        for (int set : sets) {
            TrustLedger t = new TrustLedger(set);
            for (int v = 0; v < 5; v++) {
                boolean faulty = (set >> v & 1) == 1;
                Check.due("state of " + v + " with faulty " + set, t.state(v, 0), faulty ? -1 : 0);
                Check.due("forge of " + v + " with faulty " + set, t.forge(v, 0, 0, 0, 0) >= 0, faulty);
            }
        }
    }

    private static void trustsFourOfFiveAtFirst() {
        TrustLedger t = new TrustLedger(0);
        for (int v = 0; v < 4; v++) {
            t.propose(v, 3);
        }
        int first = t.post(0, 0);
        for (int v = 1; v < 4; v++) {
            t.deliver(first, v);
            Check.due("the leader is followed", t.statements(v, 0, 0, 0), 1 << 3);
            t.deliver(t.post(v, 0), 0);
            Check.due("accepted after " + (v + 1) + " votes", t.statements(0, 0, 0, 1), v == 3 ? 1 << 3 : 0);
        }
        Check.due("confirmed", t.statements(0, 0, 0, 2), 0);
    }

    private static void blocksWithTwoAtFirst() {
        TrustLedger t = Scenes.oneGood();
        Scenes.tellZero(t, 1, 1 << 2, 0, 0);
        Check.due("one does not block", t.statements(0, 0, 0, 1), 0);
        Scenes.tellZero(t, 2, 1 << 2, 0, 0);
        Check.due("two block", t.statements(0, 0, 0, 1), 1 << 2);
        Check.due("three accepted: no quorum", t.statements(0, 0, 0, 2), 0);
        Scenes.tellZero(t, 3, 1 << 2, 0, 0);
        Check.due("four accepted: a quorum", t.statements(0, 0, 0, 2), 1 << 2);
    }
}
