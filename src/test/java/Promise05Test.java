/** Promise 5: timeout. */
public final class Promise05Test {
    public static void main(String[] args) {
        refusesWrongInputs();
        beginsNewRounds();
        votesForANewLeader();
        raisesTheCounter();
        preparesTheComposite();
        preparesTheGreatestConfirmed();
        mayEndTheSlot();
        Check.end();
    }

    private static void refusesWrongInputs() {
        TrustLedger t = new TrustLedger(16);
        int[] wrong = {-1, 4, 5, Integer.MAX_VALUE, Integer.MIN_VALUE, 0};
        t.propose(1, 1);
        for (int v : wrong) {
            Check.due("timeout(" + v + ")", t.timeout(v), false);
        }
        Check.due("node 1 has a round", t.timeout(1), true);
        t = Scenes.loners();
        t.propose(0, 1);
        Check.due("no round in slot 1 yet", t.timeout(0), false);
        t.propose(0, 1);
        t.propose(0, 1);
        Check.due("nothing in slot 3", t.timeout(0), false);
    }

    /** The leaders of slot 0 in rounds 1 .. 5 are 0, 0, 2, 2, 4. */
    private static void beginsNewRounds() {
        TrustLedger t = new TrustLedger(0);
        int[] leaders = {1, 1, 5, 5, 21};
        t.propose(1, 3);
        for (int round = 1; round <= 5; round++) {
            Check.due("round", t.state(1, 1), round);
            Check.due("leaders in round " + round, t.state(1, 2), leaders[round - 1]);
            Check.due("counter", t.state(1, 3), 0);
            Check.due("timeout", t.timeout(1), true);
        }
    }

    private static void votesForANewLeader() {
        TrustLedger t = new TrustLedger(4);
        t.propose(1, 3);
        t.deliver(t.forge(2, 0, 1 << 6, 0, 0), 1);
        t.timeout(1);
        Check.due("node 2 does not lead yet", t.statements(1, 0, 0, 0), 0);
        t.timeout(1);
        Check.due("node 2 leads, and is known", t.statements(1, 0, 0, 0), 1 << 6);
        t = new TrustLedger(0);
        t.propose(2, 3);
        Check.due("no vote", t.statements(2, 0, 0, 0), 0);
        t.timeout(2);
        t.timeout(2);
        Check.due("now it leads itself", t.statements(2, 0, 0, 0), 1 << 3);
    }

    private static void raisesTheCounter() {
        TrustLedger t = Scenes.oneGood();
        Scenes.tellZero(t, 3, 2, 0, 0);
        Check.due("composite", t.state(0, 4), 1);
        Check.due("counter", t.state(0, 3), 1);
        Check.due("no round yet", t.timeout(0), false);
        Check.due("so nothing changed", t.state(0, 3), 1);
        t.propose(0, 2);
        Check.due("it nominates no more", t.statements(0, 0, 0, 0), 0);
        int voted = Scenes.bit(1, 1);
        for (int counter = 2; counter <= 4; counter++) {
            Check.due("timeout", t.timeout(0), true);
            voted |= Scenes.bit(counter, 1);
            Check.due("counter", t.state(0, 3), counter);
            Check.due("voted", t.statements(0, 0, 1, 0), voted);
        }
        Check.due("timeout at 4", t.timeout(0), true);
        Check.due("counter at 4", t.state(0, 3), 4);
        Check.due("voted at 4", t.statements(0, 0, 1, 0), voted);
        Check.due("the round stands", t.state(0, 1), 1);
        Check.due("the leaders too", t.state(0, 2), 1);
    }

    private static void preparesTheComposite() {
        TrustLedger t = Scenes.oneGood();
        t.propose(0, 2);
        Scenes.tellZero(t, 3, 1 << 1, 0, 0);
        Scenes.tellZero(t, 3, 1 << 4, 0, 0);
        Check.due("the union", t.state(0, 4), 5);
        t.timeout(0);
        Check.due("voted", t.statements(0, 0, 1, 0), Scenes.bit(1, 1) | Scenes.bit(2, 5));
    }

    private static void preparesTheGreatestConfirmed() {
        TrustLedger t = Scenes.oneGood();
        t.propose(0, 2);
        Scenes.tellZero(t, 3, 1 << 1, 0, 0);
        Scenes.tellZero(t, 3, 0, Scenes.bit(1, 6) | Scenes.bit(2, 3), 0);
        Check.due("confirmed", t.statements(0, 0, 1, 2), Scenes.bit(1, 6) | Scenes.bit(2, 3));
        t.timeout(0);
        Check.due("value 3 of the greatest", t.statements(0, 0, 1, 0), Scenes.bit(1, 1) | Scenes.bit(2, 3));
        Check.due("though the composite is 1", t.state(0, 4), 1);
    }

    private static void mayEndTheSlot() {
        TrustLedger t = new TrustLedger(2);
        t.trust(0, 2, 0b111, 0, 0);
        t.trust(1, 1, 0b10, 0, 0);
        t.submit(0, 0, 0, 0, 0, 1, 7);
        t.propose(0, 1);
        t.deliver(t.forge(1, 0, 1 << 1, Scenes.bit(2, 1), Scenes.bit(2, 1)), 0);
        Check.due("not yet", t.value(0, 0), 0);
        Check.due("timeout", t.timeout(0), true);
        Check.due("slot", t.state(0, 0), 1);
        Check.due("value", t.value(0, 0), 1);
        Check.due("carried out", t.balance(0, 1, 0), 107);
        Check.due("header", t.header(0), 1);
    }
}
