/** Promise 3: submit. */
public final class Promise03Test {
    public static void main(String[] args) {
        refusesWrongInputs();
        takesTheEdges();
        refusesWhatIsSet();
        refusesASlotThatWasLeft();
        takesOneWhileNobodyHasLeft();
        faultyNodesNeverLeave();
        leavesTheUnsetAlone();
        Check.end();
    }

    private static boolean submit(TrustLedger t, int[] w) {
        return t.submit(w[0], w[1], w[2], w[3], w[4], w[5], w[6]);
    }

    private static void refusesWrongInputs() {
        TrustLedger t = new TrustLedger(0);
        int[][] wrong = {
            {-1, 0, 0, 0, 0, 0, 1}, {3, 0, 0, 0, 0, 0, 1}, {0, -1, 0, 0, 0, 0, 1}, {0, 3, 0, 0, 0, 0, 1},
            {0, 0, -1, 0, 0, 1, 1}, {0, 0, 2, 0, 0, 1, 1}, {0, 0, 0, -1, 0, 0, 1}, {0, 0, 0, 4, 0, 0, 1},
            {0, 0, 0, 0, -1, 0, 1}, {0, 0, 0, 0, 2, 0, 1}, {0, 0, 1, 0, 2, 1, 1}, {0, 0, 1, 0, -1, 1, 1},
            {0, 0, 0, 0, 0, -1, 1}, {0, 0, 0, 0, 0, 4, 1}, {0, 0, 1, 0, 0, 0, 1}, {0, 0, 1, 0, 0, 10, 1},
            {0, 0, 0, 0, 0, 0, 0}, {0, 0, 0, 0, 0, 0, 1001}, {0, 0, 1, 0, 0, 1, -1}, {0, 0, 1, 0, 0, 1, 1001},
            {Integer.MAX_VALUE, 0, 0, 0, 0, 0, 1}, {0, Integer.MIN_VALUE, 0, 0, 0, 0, 1},
        };
        for (int[] w : wrong) {
            Check.due("submit " + java.util.Arrays.toString(w), submit(t, w), false);
        }
        Check.due("nothing was set by these", t.submit(0, 0, 0, 0, 0, 0, 1), true);
    }

    private static void takesTheEdges() {
        int[][] right = {
            {0, 0, 0, 0, 0, 0, 1}, {2, 2, 0, 3, 1, 3, 1000}, {1, 0, 1, 0, 0, 1, 1}, {1, 2, 1, 3, 1, 9, 1000},
            {0, 1, 0, 2, 0, 2, 5}, {2, 0, 1, 1, 0, 4, 7},
        };
        TrustLedger t = new TrustLedger(0);
        for (int[] r : right) {
            Check.due("submit " + java.util.Arrays.toString(r), submit(t, r), true);
        }
    }

    private static void refusesWhatIsSet() {
        TrustLedger t = Scenes.loners();
        Check.due("first", t.submit(0, 1, 0, 0, 0, 1, 10), true);
        Check.due("the same again", t.submit(0, 1, 0, 0, 0, 1, 10), false);
        Check.due("another there", t.submit(0, 1, 0, 2, 0, 3, 50), false);
        Check.due("the same j of another slot", t.submit(1, 1, 0, 2, 0, 3, 50), true);
        t.propose(0, 2);
        Check.due("the first holds", t.balance(0, 1, 0), 110);
        Check.due("not the second", t.balance(0, 3, 0), 100);
    }

    private static void refusesASlotThatWasLeft() {
        for (int v = 0; v < 5; v++) {
            TrustLedger t = Scenes.loners();
            t.propose(v, 1);
            Check.due("node " + v + " has left slot 0", t.submit(0, 0, 0, 0, 0, 0, 1), false);
        }
        TrustLedger t = Scenes.loners();
        t.propose(4, 1);
        Check.due("not slot 1", t.submit(1, 0, 0, 0, 0, 0, 1), true);
        t.propose(4, 1);
        Check.due("node 4 has left slot 1", t.submit(1, 1, 0, 0, 0, 0, 1), false);
        Check.due("not slot 2", t.submit(2, 1, 0, 0, 0, 0, 1), true);
        t.propose(4, 1);
        Check.due("node 4 has left slot 2", t.submit(2, 2, 0, 0, 0, 0, 1), false);
    }

    /** "or a good node has left that slot": proposals, envelopes and rounds in it do not matter. */
    private static void takesOneWhileNobodyHasLeft() {
        TrustLedger t = Scenes.oneGood();
        t.propose(0, 3);
        t.timeout(0);
        Scenes.tellZero(t, 2, 0, 0, Scenes.bit(1, 3));
        Check.due("just before it leaves", t.submit(0, 0, 0, 0, 0, 1, 10), true);
        t.deliver(t.forge(3, 0, 0, 0, Scenes.bit(1, 3)), 0);
        Check.due("it was carried out", t.balance(0, 1, 0), 110);
        Check.due("just after it has left", t.submit(0, 1, 0, 0, 0, 1, 10), false);
    }

    private static void faultyNodesNeverLeave() {
        TrustLedger t = new TrustLedger(31);
        for (int v = 0; v < 5; v++) {
            t.trust(v, 1, 1 << v, 0, 0);
            t.propose(v, 1);
        }
        for (int i = 0; i < 9; i++) {
            Check.due("submit", t.submit(i / 3, i % 3, 0, 0, 0, 0, 1), true);
        }
    }

    private static void leavesTheUnsetAlone() {
        TrustLedger t = Scenes.loners();
        t.submit(0, 1, 0, 0, 0, 1, 10);
        t.propose(0, 5);
        Check.due("transaction 1 is not in 5", t.balance(0, 1, 0), 100);
        for (int a = 0; a < 4; a++) {
            Check.due("an unset one costs no coin", t.balance(0, a, 0), 100);
        }
        t.propose(1, 7);
        Check.due("transaction 1 is in 7: payer", t.balance(1, 0, 0), 89);
        Check.due("transaction 1 is in 7: payee", t.balance(1, 1, 0), 110);
    }
}
