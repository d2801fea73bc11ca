/** Promise 2: trust. */
public final class Promise02Test {
    public static void main(String[] args) {
        refusesWrongInputs();
        takesTheEdges();
        refusedChangesNothing();
        isFrozenByWhatWasNotRefused();
        innerGroupCountsForOne();
        groupWithoutInnerCountsForNothing();
        sixNeedsAllAndTheGroup();
        whatNobodySatisfiesIsBlockedByNobody();
        aQuorumSatisfiesEachNodeInIt();
        Check.end();
    }

    private static void refusesWrongInputs() {
        TrustLedger t = new TrustLedger(2);
        int[][] wrong = {
            {-1, 1, 1, 0, 0}, {5, 1, 1, 0, 0}, {0, 0, 1, 0, 0}, {0, 7, 1, 0, 0}, {0, -1, 1, 0, 0},
            {0, 1, -1, 0, 0}, {0, 1, 32, 0, 0}, {0, 1, 1, -1, 0}, {0, 1, 1, 6, 0}, {0, 1, 1, 0, -1},
            {0, 1, 1, 0, 32}, {0, 1, 1, 1, 32}, {Integer.MIN_VALUE, 1, 1, 0, 0}, {Integer.MAX_VALUE, 1, 1, 0, 0},
            {0, Integer.MAX_VALUE, 1, 0, 0}, {0, 1, Integer.MIN_VALUE, 0, 0}, {0, 1, 1, Integer.MAX_VALUE, 0},
        };
        for (int[] w : wrong) {
            Check.due("trust " + java.util.Arrays.toString(w), t.trust(w[0], w[1], w[2], w[3], w[4]), false);
        }
    }

    private static void takesTheEdges() {
        TrustLedger t = new TrustLedger(2);
        for (int v = 0; v < 5; v++) {
            Check.due("least", t.trust(v, 1, 0, 0, 0), true);
            Check.due("most", t.trust(v, 6, 31, 5, 31), true);
            Check.due("again", t.trust(v, 6, 31, 5, 31), true);
        }
    }

    private static void refusedChangesNothing() {
        TrustLedger t = new TrustLedger(0);
        t.trust(0, 1, 1, 0, 0);
        t.trust(0, 7, 31, 0, 0);
        t.trust(0, 4, 31, 6, 0);
        t.trust(0, 4, 31, 0, 32);
        t.propose(0, 1);
        Check.due("node 0 is still alone", t.value(0, 0), 1);
    }

    private static void isFrozenByWhatWasNotRefused() {
        TrustLedger t = new TrustLedger(16);
        t.propose(4, 1);
        t.propose(0, 8);
        t.timeout(0);
        t.post(4, 0);
        t.post(0, 1);
        t.forge(0, 0, 1, 1, 1);
        t.forge(4, 3, 1, 1, 1);
        t.deliver(0, 0);
        t.submit(0, 0, 0, 0, 0, 0, 1);
        Check.due("after refused calls and a submit", t.trust(0, 1, 1, 0, 0), true);
        t.post(1, 0);
        Check.due("after a post", t.trust(0, 1, 1, 0, 0), false);
        t = new TrustLedger(16);
        t.forge(4, 0, 0, 0, 0);
        Check.due("after a forge", t.trust(0, 1, 1, 0, 0), false);
        Check.due("after a forge, a faulty one", t.trust(4, 1, 1, 0, 0), false);
        t = new TrustLedger(0);
        t.propose(3, 1);
        Check.due("after a proposal", t.trust(0, 1, 1, 0, 0), false);
        t.timeout(3);
        Check.due("after a timeout", t.trust(0, 1, 1, 0, 0), false);
    }

    private static void innerGroupCountsForOne() {
        for (int inner = 1; inner <= 2; inner++) {
            TrustLedger t = new TrustLedger(7);
            t.trust(3, 2, 8, inner, 7);
            for (int u = 0; u < 3; u++) {
                t.trust(u, 1, 1 << u, 0, 0);
            }
            t.propose(3, 1);
            Check.due("the inner group may lead", t.state(3, 2), 1);
            t.deliver(t.forge(0, 0, 2, 0, 0), 3);
            Check.due("inner " + inner + " with one of it", t.statements(3, 0, 0, 2), inner == 1 ? 2 : 0);
            t.deliver(t.forge(1, 0, 2, 0, 0), 3);
            Check.due("inner " + inner + " with two of it", t.statements(3, 0, 0, 2), 2);
        }
        // The group counts for one, however many of it are there.
        TrustLedger t = new TrustLedger(7);
        t.trust(3, 3, 8, 1, 7);
        t.propose(3, 1);
        Check.due("nobody satisfies 3 of two", t.statements(3, 0, 0, 1), 0xFE);
    }

    private static void groupWithoutInnerCountsForNothing() {
        TrustLedger t = new TrustLedger(0);
        t.trust(3, 1, 8, 2, 7);
        t.trust(3, 1, 8, 0, 7);
        t.propose(3, 4);
        Check.due("it did it alone", t.value(3, 0), 4);
        t = new TrustLedger(0);
        t.trust(3, 2, 8, 0, 7);
        t.propose(3, 4);
        Check.due("its leader is itself", t.state(3, 2), 8);
        Check.due("nobody satisfies 2 of one", t.statements(3, 0, 0, 1), 0xFE);
        Check.due("and so nothing is confirmed", t.statements(3, 0, 0, 2), 0);
    }

    private static void sixNeedsAllAndTheGroup() {
        TrustLedger t = new TrustLedger(0b11110);
        t.trust(0, 6, 31, 5, 31);
        t.propose(0, 1);
        Check.due("nothing yet", t.statements(0, 0, 0, 1), 0);
        Scenes.tellZero(t, 1, 2, 0, 0);
        Check.due("one blocks", t.statements(0, 0, 0, 1), 2);
        Scenes.tellZero(t, 3, 2, 0, 0);
        Check.due("four are too few", t.statements(0, 0, 0, 2), 0);
        Scenes.tellZero(t, 4, 2, 0, 0);
        Check.due("all five", t.statements(0, 0, 0, 2), 2);
    }

    private static void whatNobodySatisfiesIsBlockedByNobody() {
        TrustLedger t = new TrustLedger(0);
        t.trust(0, 6, 31, 0, 0);
        Check.due("it is not stirred yet", t.statements(0, 0, 0, 1), 0);
        t.propose(0, 1);
        Check.due("voted", t.statements(0, 0, 0, 0), 0xFE);
        Check.due("NOMINATE", t.statements(0, 0, 0, 1), 0xFE);
        Check.due("PREPARE", t.statements(0, 0, 1, 1), Scenes.ALL_BALLOTS);
        Check.due("COMMIT", t.statements(0, 0, 2, 1), 1 << 27);
        Check.due("confirmed", t.statements(0, 0, 0, 2) + t.statements(0, 0, 1, 2) + t.statements(0, 0, 2, 2), 0);
    }

    private static void aQuorumSatisfiesEachNodeInIt() {
        TrustLedger t = new TrustLedger(0b110);
        t.trust(0, 2, 0b11, 0, 0);
        t.trust(1, 2, 0b110, 0, 0);
        t.trust(2, 1, 0b100, 0, 0);
        t.propose(0, 1);
        t.deliver(t.forge(1, 0, 2, 0, 0), 0);
        Check.due("accepted, as node 1 blocks", t.statements(0, 0, 0, 1), 2);
        Check.due("node 1 is not satisfied", t.statements(0, 0, 0, 2), 0);
        t.deliver(t.forge(2, 0, 2, 0, 0), 0);
        Check.due("now it is", t.statements(0, 0, 0, 2), 2);
    }
}
