import java.util.function.IntPredicate;

/** For each argument of each call: the least and the greatest that are taken, and all around them that are not. */
public final class RangesTest {
    private static final int NONE = TrustLedger.NONE;

    public static void main(String[] args) {
        trust();
        submitPay();
        submitOffer();
        propose();
        timeout();
        post();
        forge();
        deliver();
        state();
        statements();
        value();
        header();
        balance();
        offer();
        faultyNodesAreAskedInVain();
        Check.end();
    }

    /** Just the numbers from least to most are taken, of all from -70 to 1070 and the extremes. */
    private static void range(String argument, int least, int most, IntPredicate taken) {
        for (int n = -70; n <= 1070; n++) {
            Check.due(argument + " = " + n, taken.test(n), n >= least && n <= most);
        }
        for (int shift = 8; shift < 32; shift++) {
            // An argument whose low bits alone were looked at would seem right here.
            Check.due(argument + " = " + least + " + 2^" + shift, taken.test(least + (1 << shift)), least + (1 << shift) <= most && shift < 31);
        }
        Check.due(argument + " = MIN_VALUE", taken.test(Integer.MIN_VALUE), false);
        Check.due(argument + " = MAX_VALUE", taken.test(Integer.MAX_VALUE), false);
    }

    private static TrustLedger fresh() {
        return new TrustLedger(0);
    }

    private static void trust() {
        range("trust, v", 0, 4, n -> fresh().trust(n, 1, 1, 0, 0));
        range("trust, threshold", 1, 6, n -> fresh().trust(0, n, 1, 0, 0));
        range("trust, members", 0, 31, n -> fresh().trust(0, 1, n, 0, 0));
        range("trust, inner", 0, 5, n -> fresh().trust(0, 1, 1, n, 1));
        range("trust, group", 0, 31, n -> fresh().trust(0, 1, 1, 1, n));
        range("trust, group without inner", 0, 31, n -> fresh().trust(0, 1, 1, 0, n));
        range("trust of faulty nodes, v", 0, 4, n -> new TrustLedger(31).trust(n, 1, 1, 0, 0));
    }

    private static void submitPay() {
        range("PAY, slot", 0, 2, n -> fresh().submit(n, 0, 0, 0, 0, 1, 1));
        range("PAY, j", 0, 2, n -> fresh().submit(0, n, 0, 0, 0, 1, 1));
        range("kind", 0, 1, n -> fresh().submit(0, 0, n, 0, 0, 1, 1));
        range("PAY, from", 0, 3, n -> fresh().submit(0, 0, 0, n, 0, 1, 1));
        range("PAY, what", 0, 1, n -> fresh().submit(0, 0, 0, 0, n, 1, 1));
        range("PAY, other", 0, 3, n -> fresh().submit(0, 0, 0, 2, 0, n, 1));
        range("PAY, amount", 1, 1000, n -> fresh().submit(0, 0, 0, 0, 0, 1, n));
    }

    private static void submitOffer() {
        range("OFFER, slot", 0, 2, n -> fresh().submit(n, 0, 1, 0, 0, 1, 1));
        range("OFFER, j", 0, 2, n -> fresh().submit(0, n, 1, 0, 0, 1, 1));
        range("OFFER, from", 0, 3, n -> fresh().submit(0, 0, 1, n, 0, 1, 1));
        range("OFFER, what", 0, 1, n -> fresh().submit(0, 0, 1, 0, n, 1, 1));
        range("OFFER, other", 1, 9, n -> fresh().submit(0, 0, 1, 0, 0, n, 1));
        range("OFFER, amount", 1, 1000, n -> fresh().submit(0, 0, 1, 0, 0, 1, n));
    }

    private static void propose() {
        range("propose, v", 0, 4, n -> fresh().propose(n, 1));
        range("propose, x", 1, 7, n -> fresh().propose(0, n));
    }

    private static void timeout() {
        range("timeout, v", 0, 4, n -> {
            TrustLedger t = fresh();
            for (int v = 0; v < 5; v++) {
                t.propose(v, 1);
            }
            return t.timeout(n);
        });
    }

    /** Node 0 has done so many slots by itself. */
    private static TrustLedger done(int slots) {
        TrustLedger t = fresh();
        t.trust(0, 1, 1, 0, 0);
        for (int slot = 0; slot < slots; slot++) {
            t.propose(0, 7);
        }
        return t;
    }

    private static void post() {
        range("post, v", 0, 4, n -> fresh().post(n, 0) == 0);
        range("post in slot 0, slot", 0, 0, n -> done(0).post(0, n) == 0);
        range("post in slot 1, slot", 0, 1, n -> done(1).post(0, n) == 0);
        range("post in slot 2, slot", 0, 2, n -> done(2).post(0, n) == 0);
        range("post in slot 3, slot", 0, 2, n -> done(3).post(0, n) == 0);
    }

    private static void forge() {
        range("forge, v", 0, 4, n -> new TrustLedger(31).forge(n, 0, 0, 0, 0) == 0);
        range("forge, slot", 0, 2, n -> new TrustLedger(31).forge(0, n, 0, 0, 0) == 0);
        for (int set : new int[] {Integer.MIN_VALUE, -1, 0, 1, Integer.MAX_VALUE}) {
            Check.due("forge, values " + set, new TrustLedger(1).forge(0, 0, set, 0, 0), 0);
            Check.due("forge, prepare " + set, new TrustLedger(1).forge(0, 0, 0, set, 0), 0);
            Check.due("forge, commit " + set, new TrustLedger(1).forge(0, 0, 0, 0, set), 0);
        }
    }

    private static void deliver() {
        for (int count : new int[] {0, 1, 2, 119, 120}) {
            TrustLedger t = new TrustLedger(1);
            for (int k = 0; k < count; k++) {
                t.forge(0, 0, 0, 0, 0);
            }
            for (int k : new int[] {Integer.MIN_VALUE, -1, 0, 1, 2, 3, 118, 119, 120, 121, Integer.MAX_VALUE}) {
                Check.due("deliver " + k + " of " + count, t.deliver(k, 1), k >= 0 && k < count);
            }
        }
        range("deliver, v", 1, 4, n -> {
            TrustLedger t = new TrustLedger(1);
            t.forge(0, 0, 2, 1, 1);
            return t.deliver(0, n);
        });
        range("deliver of what node 0 posted, v", 1, 4, n -> {
            TrustLedger t = fresh();
            t.post(0, 0);
            return t.deliver(0, n);
        });
    }

    private static void state() {
        range("state, v", 0, 4, n -> fresh().state(n, 0) != NONE);
        range("state, what", 0, 5, n -> fresh().state(0, n) != NONE);
        range("state in slot 3, what", 0, 5, n -> done(3).state(0, n) != NONE);
    }

    private static void statements() {
        range("statements, v", 0, 4, n -> fresh().statements(n, 0, 0, 0) != NONE);
        range("statements, slot", 0, 2, n -> fresh().statements(0, n, 0, 0) != NONE);
        range("statements in slot 3, slot", 0, 2, n -> done(3).statements(0, n, 0, 0) != NONE);
        range("statements, kind", 0, 2, n -> fresh().statements(0, 0, n, 0) != NONE);
        range("statements, how", 0, 2, n -> fresh().statements(0, 0, 0, n) != NONE);
    }

    private static void value() {
        range("value, v", 0, 4, n -> fresh().value(n, 0) != NONE);
        range("value, slot", 0, 2, n -> fresh().value(0, n) != NONE);
        range("value in slot 3, slot", 0, 2, n -> done(3).value(0, n) == 7);
    }

    private static void header() {
        range("header, v", 0, 0, n -> done(1).header(n) == 7);
    }

    private static void balance() {
        range("balance, v", 0, 4, n -> fresh().balance(n, 0, 0) == 100);
        range("balance, a", 0, 3, n -> fresh().balance(0, n, 0) == 100);
        range("balance, asset", 0, 1, n -> fresh().balance(0, 0, n) != NONE);
    }

    private static void offer() {
        for (int resting = 0; resting <= 8; resting++) {
            TrustLedger t = fresh();
            t.trust(0, 1, 1, 0, 0);
            for (int i = 0; i < resting; i++) {
                t.submit(i / 3, i % 3, 1, 0, 1, 9, 1);
            }
            for (int slot = 0; slot < 3; slot++) {
                t.propose(0, 7);
            }
            for (int k : new int[] {Integer.MIN_VALUE, -1, 0, 1, 2, 3, 4, 5, 6, 7, 8, 9, Integer.MAX_VALUE}) {
                Check.due("offer " + k + " of " + resting, t.offer(0, k) != NONE, k >= 0 && k < resting);
            }
            for (int v : new int[] {Integer.MIN_VALUE, -1, 1, 4, 5, Integer.MAX_VALUE}) {
                Check.due("offer of node " + v, t.offer(v, 0), NONE);
            }
        }
    }

    /** A faulty node proposes, waits, posts and gets nothing, and has nothing that could be asked for. */
    private static void faultyNodesAreAskedInVain() {
        for (int v = 0; v < 5; v++) {
            TrustLedger t = new TrustLedger(1 << v);
            int other = (v + 1) % 5;
            Check.due("propose", t.propose(v, 1), false);
            Check.due("timeout", t.timeout(v), false);
            Check.due("post", t.post(v, 0), NONE);
            Check.due("forge of a good one", t.forge(other, 0, 2, 1, 1), NONE);
            Check.due("post of a good one", t.post(other, 0), 0);
            Check.due("deliver", t.deliver(0, v), false);
            Check.due("state", t.state(v, 0), NONE);
            Check.due("statements", t.statements(v, 0, 0, 0), NONE);
            Check.due("value", t.value(v, 0), NONE);
            Check.due("header", t.header(v), 0);
            Check.due("balance", t.balance(v, 0, 0), NONE);
            Check.due("offer", t.offer(v, 0), NONE);
        }
    }
}
