/** Promise 13: header. */
public final class Promise13Test {
    public static void main(String[] args) {
        TrustLedger t = Scenes.loners();
        for (int v = 0; v < 5; v++) {
            Check.due("at first", t.header(v), 0);
        }
        t.propose(1, 7);
        Check.due("after slot 0", t.header(1), 7);
        t.propose(1, 3);
        Check.due("after slot 1", t.header(1), 31 * (31 * 7 + 1) + 3);
        t.propose(1, 5);
        Check.due("after slot 2", t.header(1), 31 * (31 * 6761 + 2) + 5);
        Check.due("that of another node", t.header(0), 0);
        Check.due("no node", t.header(-1), 0);
        Check.due("no node", t.header(5), 0);
        Check.due("no node", t.header(Integer.MAX_VALUE), 0);
        Check.due("a faulty node", new TrustLedger(1).header(0), 0);
        leastAndGreatest();
        Check.end();
    }

    /** "(it wraps)": three slots are too few for that; this is as far as a header comes. */
    private static void leastAndGreatest() {
        TrustLedger t = Scenes.loners();
        for (int slot = 0; slot < 3; slot++) {
            t.propose(0, 1);
            t.propose(4, 7);
        }
        Check.due("the least", t.header(0), 954336);
        Check.due("the greatest", t.header(4), 6501234);
    }
}
