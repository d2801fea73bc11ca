/** Promise 6: post. */
public final class Promise06Test {
    public static void main(String[] args) {
        refusesWrongInputs();
        numbersInOrder();
        keepsWhatItWas();
        tellsVotesAsBackedOnly();
        tellsOfSlotsThatWereLeft();
        tellsOfNoSlotAbove();
        stopsAt120();
        Check.end();
    }

    private static void refusesWrongInputs() {
        TrustLedger t = new TrustLedger(8);
        int[][] wrong = {
            {-1, 0}, {5, 0}, {3, 0}, {0, -1}, {0, 3}, {0, 1}, {0, 2}, {Integer.MAX_VALUE, 0}, {0, Integer.MIN_VALUE},
        };
        for (int[] w : wrong) {
            Check.due("post(" + w[0] + ", " + w[1] + ")", t.post(w[0], w[1]), -1);
        }
        Check.due("none was made", t.envelopes(), 0);
    }

    private static void numbersInOrder() {
        TrustLedger t = new TrustLedger(8);
        Check.due("first, with nothing in it", t.post(4, 0), 0);
        Check.due("second", t.post(0, 0), 1);
        Check.due("a forged one", t.forge(3, 0, 0, 0, 0), 2);
        Check.due("third", t.post(0, 0), 3);
    }

    private static void keepsWhatItWas() {
        TrustLedger t = new TrustLedger(0);
        t.propose(1, 1);
        int before = t.post(0, 0);
        t.propose(0, 6);
        int after = t.post(0, 0);
        t.deliver(before, 1);
        Check.due("it held nothing", t.statements(1, 0, 0, 0), 0);
        t.deliver(after, 1);
        Check.due("it holds a vote", t.statements(1, 0, 0, 0), 1 << 6);
    }

    private static void tellsVotesAsBackedOnly() {
        TrustLedger t = new TrustLedger(0);
        t.trust(0, 2, 3, 0, 0);
        t.trust(1, 2, 3, 0, 0);
        t.propose(0, 2);
        t.propose(1, 2);
        t.deliver(t.post(0, 0), 1);
        Check.due("node 1 accepts", t.statements(1, 0, 0, 1), 4);
        Check.due("node 0 has not accepted", t.statements(1, 0, 0, 2), 0);
        t.deliver(t.post(1, 0), 0);
        Check.due("node 1 has accepted, so node 0 confirms", t.statements(0, 0, 0, 2), 4);
        Check.due("and goes on to PREPARE", t.statements(0, 0, 1, 0), Scenes.bit(1, 2));
    }

    private static void tellsOfSlotsThatWereLeft() {
        TrustLedger t = new TrustLedger(0);
        t.trust(0, 1, 1, 0, 0);
        t.trust(1, 1, 1, 0, 0);
        t.propose(0, 5);
        t.propose(0, 3);
        t.propose(0, 1);
        int[] values = {5, 3, 1};
        for (int slot = 0; slot < 3; slot++) {
            int k = t.post(0, slot);
            Check.due("post of slot " + slot, k, slot);
            Check.due("deliver", t.deliver(k, 1), true);
            Check.due("node 1 accepts what node 0 has", t.statements(1, slot, 2, 1), Scenes.bit(1, values[slot]));
            Check.due("value", t.value(1, slot), values[slot]);
        }
        Check.due("both have the same header", t.header(1), t.header(0));
    }

    /** "or above that of v". */
    private static void tellsOfNoSlotAbove() {
        TrustLedger t = Scenes.loners();
        for (int own = 0; own <= 3; own++) {
            for (int slot = 0; slot <= 3; slot++) {
                int due = slot <= own && slot < 3 ? t.envelopes() : -1;
                Check.due("post of slot " + slot + " in slot " + own, t.post(0, slot), due);
            }
            t.propose(0, 1);
        }
    }

    private static void stopsAt120() {
        TrustLedger t = new TrustLedger(1);
        for (int k = 0; k < 120; k++) {
            Check.due("post", t.post(1, 0), k);
        }
        Check.due("the 121st", t.post(1, 0), -1);
        Check.due("the 121st, forged", t.forge(0, 0, 0, 0, 0), -1);
        Check.due("envelopes", t.envelopes(), 120);
        Check.due("the last can be delivered", t.deliver(119, 2), true);
        Check.due("there is no 120", t.deliver(120, 2), false);
    }
}
