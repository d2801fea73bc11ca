/** Promise 9: envelopes. */
public final class Promise09Test {
    public static void main(String[] args) {
        TrustLedger t = new TrustLedger(2);
        Check.due("none at first", t.envelopes(), 0);
        t.post(0, 0);
        Check.due("after a post", t.envelopes(), 1);
        t.forge(1, 2, 0, 0, 0);
        Check.due("after a forge", t.envelopes(), 2);
        t.post(1, 0);
        t.post(0, 1);
        t.forge(0, 0, 0, 0, 0);
        t.forge(1, 3, 0, 0, 0);
        Check.due("after refused ones", t.envelopes(), 2);
        t.deliver(0, 2);
        t.deliver(0, 2);
        t.propose(0, 1);
        t.timeout(0);
        Check.due("other calls make none", t.envelopes(), 2);
        for (int k = 0; k < 130; k++) {
            t.post(2, 0);
        }
        Check.due("there are never more than 120", t.envelopes(), 120);
        Check.end();
    }
}
