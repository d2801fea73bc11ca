/** Promise 7: forge. */
public final class Promise07Test {
    public static void main(String[] args) {
        refusesWrongInputs();
        looksAtValuesAndBallotsOnly();
        saysAcceptedAndBacked();
        mayBeOfAnySlot();
        stopsAt120();
        Check.end();
    }

    private static void refusesWrongInputs() {
        TrustLedger t = new TrustLedger(16);
        int[][] wrong = {{-1, 0}, {5, 0}, {0, 0}, {4, -1}, {4, 3}, {Integer.MIN_VALUE, 0}, {4, Integer.MAX_VALUE}};
        for (int[] w : wrong) {
            Check.due("forge(" + w[0] + ", " + w[1] + ")", t.forge(w[0], w[1], 2, 1, 1), -1);
        }
        Check.due("none was made", t.envelopes(), 0);
        Check.due("a right one", t.forge(4, 0, 2, 1, 1), 0);
    }

    private static void looksAtValuesAndBallotsOnly() {
        TrustLedger t = Scenes.oneGood();
        Scenes.tellZero(t, 2, -1, -1, 0);
        Check.due("NOMINATE", t.statements(0, 0, 0, 1), 0xFE);
        Check.due("PREPARE", t.statements(0, 0, 1, 1), Scenes.ALL_BALLOTS);
        t = Scenes.oneGood();
        Scenes.tellZero(t, 2, 1 | 1 << 8, 1 << 28, 1 << 31);
        Check.due("no value", t.statements(0, 0, 0, 1), 0);
        Check.due("no ballot to prepare", t.statements(0, 0, 1, 1), 0);
        Check.due("no ballot to commit", t.statements(0, 0, 2, 1), 0);
        t = Scenes.oneGood();
        Scenes.tellZero(t, 2, 0, 0, -1);
        Check.due("COMMIT", t.statements(0, 0, 2, 1), Scenes.ALL_BALLOTS);
    }

    private static void saysAcceptedAndBacked() {
        TrustLedger t = new TrustLedger(1);
        t.trust(1, 2, 3, 0, 0);
        t.trust(0, 1, 1, 0, 0);
        t.propose(1, 1);
        t.deliver(t.forge(0, 0, 1 << 5, 0, 0), 1);
        Check.due("backed: it is followed", t.statements(1, 0, 0, 0), 1 << 5);
        Check.due("accepted: it is confirmed", t.statements(1, 0, 0, 2), 1 << 5);
    }

    private static void mayBeOfAnySlot() {
        TrustLedger t = Scenes.oneGood();
        Check.due("slot 2", t.forge(1, 2, 2, 0, 0), 0);
        Check.due("slot 1", t.forge(1, 1, 2, 0, 0), 1);
        Check.due("slot 0", t.forge(1, 0, 2, 0, 0), 2);
        Check.due("node 0 is not in slot 2", t.deliver(0, 0), false);
        Check.due("nor in slot 1", t.deliver(1, 0), false);
        Check.due("but in slot 0", t.deliver(2, 0), true);
        Check.due("only one has accepted", t.statements(0, 0, 0, 1), 0);
    }

    private static void stopsAt120() {
        TrustLedger t = new TrustLedger(1);
        for (int k = 0; k < 120; k++) {
            Check.due("forge", t.forge(0, 0, 0, 0, 0), k);
        }
        Check.due("the 121st", t.forge(0, 0, 0, 0, 0), -1);
        Check.due("the 121st, posted", t.post(1, 0), -1);
        Check.due("envelopes", t.envelopes(), 120);
    }
}
