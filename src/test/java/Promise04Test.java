/** Promise 4: propose. */
public final class Promise04Test {
    public static void main(String[] args) {
        refusesWrongInputs();
        beginsTheFirstRound();
        choosesTheLeaderBySlotAndTrust();
        goesOnFromSlotToSlot();
        votesForAProposalOnlyAsLeader();
        Check.end();
    }

    private static void refusesWrongInputs() {
        TrustLedger t = new TrustLedger(2);
        int[][] wrong = {
            {-1, 1}, {5, 1}, {1, 1}, {0, 0}, {0, 8}, {0, -1}, {Integer.MAX_VALUE, 1}, {0, Integer.MIN_VALUE},
        };
        for (int[] w : wrong) {
            Check.due("propose(" + w[0] + ", " + w[1] + ")", t.propose(w[0], w[1]), false);
        }
        Check.due("no round by that", t.state(0, 1), 0);
        Check.due("no proposal by that", t.state(0, 5), 0);
        Check.due("the first", t.propose(0, 1), true);
        Check.due("the same again", t.propose(0, 1), false);
        Check.due("a second", t.propose(0, 2), false);
        Check.due("the first holds", t.state(0, 5), 1);
        Check.due("the edge 7", t.propose(2, 7), true);
    }

    private static void beginsTheFirstRound() {
        TrustLedger t = new TrustLedger(0);
        t.propose(0, 5);
        Check.due("round", t.state(0, 1), 1);
        Check.due("leaders", t.state(0, 2), 1);
        Check.due("proposal", t.state(0, 5), 5);
        Check.due("a leader votes", t.statements(0, 0, 0, 0), 1 << 5);
        Check.due("it accepts nothing alone", t.statements(0, 0, 0, 1), 0);
        t.propose(3, 6);
        Check.due("leaders of 3", t.state(3, 2), 1);
        Check.due("who does not lead does not vote", t.statements(3, 0, 0, 0), 0);
    }

    /**
     * In slot 0, round 1 the ranks of nodes 0 .. 4 are 89, 51, 13, 76, 38; in slot 1 they are 40, 2, 65, 27, 90,
     * and in slot 2 they are 92, 54, 16, 79, 41.
     */
    private static void choosesTheLeaderBySlotAndTrust() {
        int[][] cases = {{1, 0b11110, 8}, {2, 0b10110, 2}, {2, 0b10000, 16}, {2, 0b00000, 4}, {4, 0b00100, 16}};
        for (int[] c : cases) {
            TrustLedger t = new TrustLedger(0);
            t.trust(c[0], 3, c[1], 0, 31);
            t.propose(c[0], 1);
            Check.due("leader of " + c[0] + " among " + c[1], t.state(c[0], 2), c[2]);
        }
        TrustLedger t = new TrustLedger(0);
        t.trust(2, 3, 0b100, 1, 0b11000);
        t.propose(2, 1);
        Check.due("leader from the inner group", t.state(2, 2), 8);
        t = new TrustLedger(0b11110);
        Scenes.tellZero(t, 3, 0, 0, Scenes.bit(1, 1));
        Check.due("node 0 is in slot 1", t.state(0, 0), 1);
        t.propose(0, 1);
        Check.due("leader in slot 1", t.state(0, 2), 16);
        for (int u = 1; u <= 3; u++) {
            t.deliver(t.forge(u, 1, 0, 0, Scenes.bit(1, 1)), 0);
        }
        Check.due("node 0 is in slot 2", t.state(0, 0), 2);
        t.propose(0, 1);
        Check.due("leader in slot 2", t.state(0, 2), 1);
    }

    private static void goesOnFromSlotToSlot() {
        TrustLedger t = Scenes.loners();
        for (int slot = 0; slot < 3; slot++) {
            Check.due("slot", t.state(1, 0), slot);
            Check.due("proposal", t.state(1, 5), 0);
            Check.due("propose", t.propose(1, slot + 4), true);
            Check.due("value", t.value(1, slot), slot + 4);
        }
        Check.due("slot 3", t.state(1, 0), 3);
        Check.due("nothing in slot 3", t.propose(1, 1), false);
    }

    private static void votesForAProposalOnlyAsLeader() {
        TrustLedger t = new TrustLedger(0b00001);
        t.propose(1, 4);
        t.deliver(t.forge(0, 0, 0b1100, 0, 0), 1);
        Check.due("it follows the leader 0", t.statements(1, 0, 0, 0), 0b1100);
        t.propose(2, 1);
        t.deliver(t.post(1, 0), 2);
        Check.due("it does not follow node 1", t.statements(2, 0, 0, 0), 0);
    }
}
