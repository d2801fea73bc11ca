/** Promise 8: deliver, and the rules A to H by which a node is stirred. */
public final class Promise08Test {
    public static void main(String[] args) {
        refusesWrongInputs();
        addsToWhatWasKnown();
        aLeaderVotesForWhatItHasAccepted();
        noVoteAfterANominateIsConfirmed();
        beginsToPrepare();
        preparesWhatIsConfirmedRatherThanTheComposite();
        acceptsNoPrepareAgainstACommit();
        acceptsNoCommitAgainstAPrepare();
        votesForCommitsThatNothingAborts();
        endsWithTheFirstCommit();
        knowsNothingInTheNextSlot();
        agreesAmongFive();
        Check.end();
    }

    private static void refusesWrongInputs() {
        TrustLedger t = new TrustLedger(16);
        Check.due("no envelope yet", t.deliver(0, 1), false);
        t.post(0, 0);
        int[][] wrong = {{-1, 1}, {1, 1}, {0, -1}, {0, 5}, {0, 4}, {0, 0}, {120, 1}, {Integer.MIN_VALUE, 1}, {0, Integer.MAX_VALUE}};
        for (int[] w : wrong) {
            Check.due("deliver(" + w[0] + ", " + w[1] + ")", t.deliver(w[0], w[1]), false);
        }
        Check.due("a right one", t.deliver(0, 1), true);
        Check.due("the same again", t.deliver(0, 1), true);
        t = Scenes.loners();
        int k = t.post(0, 0);
        t.propose(1, 1);
        Check.due("node 1 has left slot 0", t.deliver(k, 1), false);
        t.propose(1, 1);
        t.propose(1, 1);
        Check.due("node 1 is in slot 3", t.deliver(k, 1), false);
        t.propose(0, 1);
        Check.due("node 2 is not in slot 1", t.deliver(t.post(0, 1), 2), false);
    }

    private static void addsToWhatWasKnown() {
        TrustLedger t = Scenes.oneGood();
        Scenes.tellZero(t, 1, 1 << 3, 0, 0);
        Scenes.tellZero(t, 1, 1 << 4, 0, 0);
        Scenes.tellZero(t, 1, 0, 0, 0);
        Check.due("node 1 alone", t.statements(0, 0, 0, 1), 0);
        t.deliver(t.forge(2, 0, 0b11000, 0, 0), 0);
        Check.due("both of it are still known", t.statements(0, 0, 0, 1), 0b11000);
        t = new TrustLedger(0);
        t.trust(1, 2, 0b11, 0, 0);
        int empty = t.post(0, 0);
        t.propose(0, 4);
        t.deliver(t.post(0, 0), 1);
        t.deliver(empty, 1);
        t.propose(1, 1);
        Check.due("a vote stays known, though an older envelope came later", t.statements(1, 0, 0, 0), 1 << 4);
    }

    private static void aLeaderVotesForWhatItHasAccepted() {
        TrustLedger t = Scenes.oneGood();
        t.propose(0, 1);
        Scenes.tellZero(t, 2, 1 << 6, 0, 0);
        Check.due("accepted", t.statements(0, 0, 0, 1), 1 << 6);
        Check.due("voted, as the leader is node 0 itself", t.statements(0, 0, 0, 0), 1 << 1 | 1 << 6);
        t = new TrustLedger(0b11101);
        t.propose(1, 1);
        t.deliver(t.forge(2, 0, 1 << 6, 0, 0), 1);
        t.deliver(t.forge(3, 0, 1 << 6, 0, 0), 1);
        Check.due("accepted by node 1", t.statements(1, 0, 0, 1), 1 << 6);
        Check.due("not voted, as the leader is node 0", t.statements(1, 0, 0, 0), 0);
    }

    private static void noVoteAfterANominateIsConfirmed() {
        TrustLedger t = new TrustLedger(0b11101);
        t.propose(1, 1);
        for (int u = 2; u <= 4; u++) {
            t.deliver(t.forge(u, 0, 1 << 2, 0, 0), 1);
        }
        Check.due("confirmed", t.statements(1, 0, 0, 2), 1 << 2);
        t.deliver(t.forge(0, 0, 1 << 7, 0, 0), 1);
        Check.due("the leader comes too late", t.statements(1, 0, 0, 0), 0);
    }

    private static void beginsToPrepare() {
        TrustLedger t = Scenes.oneGood();
        Scenes.tellZero(t, 3, 1 << 2 | 1 << 4, 0, 0);
        Check.due("the union is prepared", t.statements(0, 0, 1, 0), Scenes.bit(1, 6));
        Check.due("composite", t.state(0, 4), 6);
        Check.due("counter", t.state(0, 3), 1);
        Scenes.tellZero(t, 3, 1 << 1, 0, 0);
        Check.due("composite grows", t.state(0, 4), 7);
        Check.due("the vote stands", t.statements(0, 0, 1, 0), Scenes.bit(1, 6));
    }

    private static void preparesWhatIsConfirmedRatherThanTheComposite() {
        TrustLedger t = Scenes.oneGood();
        Scenes.tellZero(t, 3, 0, Scenes.bit(3, 4) | Scenes.bit(2, 7), 0);
        Check.due("no counter without a composite", t.state(0, 3), 0);
        Check.due("no vote", t.statements(0, 0, 1, 0), 0);
        Scenes.tellZero(t, 3, 1 << 1, 0, 0);
        Check.due("the value of the greatest confirmed", t.statements(0, 0, 1, 0), Scenes.bit(1, 4));
        for (int b = 0; b < 28; b++) {
            t = Scenes.oneGood();
            Scenes.tellZero(t, 3, 0, 1 << b, 0);
            Scenes.tellZero(t, 3, 1 << 3, 0, 0);
            Check.due("ballot " + b + " is confirmed", t.statements(0, 0, 1, 0), Scenes.bit(1, b % 7 + 1));
        }
    }

    private static void acceptsNoPrepareAgainstACommit() {
        TrustLedger t = Scenes.oneGood();
        Scenes.tellZero(t, 2, 0, 0, Scenes.bit(2, 3));
        Check.due("accepted COMMIT", t.statements(0, 0, 2, 1), Scenes.bit(2, 3));
        Scenes.tellZero(t, 2, 0, -1, 0);
        int below = Scenes.bit(2, 3) * 2 - 1;
        Check.due("all below it and its own value above", t.statements(0, 0, 1, 1),
            below | Scenes.bit(3, 3) | Scenes.bit(4, 3));
    }

    private static void acceptsNoCommitAgainstAPrepare() {
        TrustLedger t = Scenes.oneGood();
        Scenes.tellZero(t, 2, 0, Scenes.bit(2, 3), 0);
        Scenes.tellZero(t, 2, 0, 0, -1);
        int below = Scenes.bit(2, 3) - 1;
        Check.due("its own value below it, and all from it on", t.statements(0, 0, 2, 1),
            Scenes.ALL_BALLOTS & ~below | Scenes.bit(1, 3));
    }

    private static void votesForCommitsThatNothingAborts() {
        TrustLedger t = Scenes.oneGood();
        Scenes.tellZero(t, 3, 0, Scenes.bit(1, 2), 0);
        Check.due("confirmed", t.statements(0, 0, 1, 2), Scenes.bit(1, 2));
        Check.due("voted", t.statements(0, 0, 2, 0), Scenes.bit(1, 2));
        Scenes.tellZero(t, 2, 0, Scenes.bit(2, 5), 0);
        Scenes.tellZero(t, 3, 0, Scenes.bit(1, 5), 0);
        Check.due("(2, 5) accepted does not abort (1, 5)", t.statements(0, 0, 2, 0), Scenes.bit(1, 2) | Scenes.bit(1, 5));
        Scenes.tellZero(t, 3, 0, Scenes.bit(1, 7), 0);
        Check.due("but (1, 7)", t.statements(0, 0, 2, 0), Scenes.bit(1, 2) | Scenes.bit(1, 5));
        // A vote alone keeps from voting for COMMIT, too.
        t = Scenes.oneGood();
        t.propose(0, 1);
        Scenes.tellZero(t, 3, 1 << 6, 0, 0);
        Check.due("voted for PREPARE (1, 6)", t.statements(0, 0, 1, 0), Scenes.bit(1, 6));
        Scenes.tellZero(t, 3, 0, Scenes.bit(1, 2) | Scenes.bit(1, 7), 0);
        Check.due("not (1, 2)", t.statements(0, 0, 2, 0), Scenes.bit(1, 7));
    }

    private static void endsWithTheFirstCommit() {
        TrustLedger t = Scenes.oneGood();
        for (int u = 1; u <= 3; u++) {
            t.forge(u, 0, 0, 0, Scenes.bit(1, 5) | Scenes.bit(2, 3) | Scenes.bit(3, 1));
        }
        t.deliver(0, 0);
        t.deliver(1, 0);
        Check.due("all three accepted", t.statements(0, 0, 2, 1), Scenes.bit(1, 5) | Scenes.bit(2, 3) | Scenes.bit(3, 1));
        t.deliver(2, 0);
        Check.due("only the least is confirmed", t.statements(0, 0, 2, 2), Scenes.bit(1, 5));
        Check.due("value", t.value(0, 0), 5);
        t = new TrustLedger(0b11110);
        t.trust(0, 2, 0b11, 0, 0);
        t.trust(1, 1, 0b10, 0, 0);
        Scenes.tellZero(t, 1, 0, 0, Scenes.bit(1, 5) | Scenes.bit(2, 3));
        Check.due("the later one is not even accepted", t.statements(0, 0, 2, 1), Scenes.bit(1, 5));
    }

    private static void knowsNothingInTheNextSlot() {
        TrustLedger t = Scenes.oneGood();
        Scenes.tellZero(t, 2, 1 << 1, 0, 0);
        Scenes.tellZero(t, 3, 0, 0, Scenes.bit(1, 1));
        Check.due("slot", t.state(0, 0), 1);
        t.deliver(t.forge(3, 1, 1 << 1, 0, 0), 0);
        Check.due("one of slot 1 does not block", t.statements(0, 1, 0, 1), 0);
        Check.due("what was had of slot 0 is kept", t.statements(0, 0, 0, 1), 1 << 1);
        Check.due("and no envelope of slot 0 is taken", t.deliver(0, 0), false);
    }

    private static void agreesAmongFive() {
        TrustLedger t = new TrustLedger(0);
        for (int slot = 0; slot < 3; slot++) {
            for (int v = 0; v < 5; v++) {
                Check.due("propose", t.propose(v, 1 + (v + slot) % 7), true);
            }
            for (int times = 0; times < 6 && t.state(0, 0) == slot; times++) {
                Scenes.exchange(t, slot, 31);
            }
            for (int v = 1; v < 5; v++) {
                Check.due("the same value", t.value(v, slot), t.value(0, slot));
            }
            Check.due("some value", t.value(0, slot) > 0, true);
        }
        Check.due("the leader of slot 0 proposed 1", t.value(0, 0), 1);
        Check.due("the leader of slot 1 proposed 6", t.value(0, 1), 6);
    }
}
