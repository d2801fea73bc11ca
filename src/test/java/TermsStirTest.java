/** The boundary cases in the terms of stirring: the rules A to H, their order, and how a slot ends. */
public final class TermsStirTest {
    public static void main(String[] args) {
        aLeaderVotesForItsProposalAlone();
        whoDoesNotLeadVotesForNoProposal();
        withoutALeaderNobodyIsFollowed();
        aVoteOfALeaderIsEnough();
        anAcceptanceOfALeaderIsEnough();
        acceptancesCountAmongThoseThatBacked();
        aLeaderThatAcceptedVotesInTheNextPass();
        noVoteWhenANominateIsConfirmed();
        theVoteComesBeforeTheConfirmation();
        acceptsFromAQuorumOfVotes();
        acceptsFromABlockingSetWithoutAVote();
        confirmsOnlyWithItsOwnAcceptance();
        preparesOnceOnly();
        preparesTheGreatestConfirmed();
        prepareIsAcceptedBeforeCommit();
        votesForACommitThatItHasAccepted();
        commitIsAcceptedAndConfirmedAtOnce();
        theLeastCommitEndsTheSlot();
        nothingIsDoneAfterTheEnd();
        theNextSlotIsEmpty();
        nothingHappensInSlotThree();
        Check.end();
    }

    /** Node v alone is good, and all trust 4 of the five; in round 1 of slot 0 node 0 leads. */
    private static TrustLedger alone(int v) {
        return new TrustLedger(31 - (1 << v));
    }

    private static void tell(TrustLedger t, int v, int sender, int values, int prepare, int commit) {
        Check.due("deliver", t.deliver(t.forge(sender, t.state(v, 0), values, prepare, commit), v), true);
    }

    private static void due(TrustLedger t, int v, int kind, int voted, int accepted, int confirmed) {
        Check.due("voted, kind " + kind, t.statements(v, 0, kind, 0), voted);
        Check.due("accepted, kind " + kind, t.statements(v, 0, kind, 1), accepted);
        Check.due("confirmed, kind " + kind, t.statements(v, 0, kind, 2), confirmed);
    }

    /** Rule A: "when it is a leader itself and x is its proposal". */
    private static void aLeaderVotesForItsProposalAlone() {
        for (int x = 1; x <= 7; x++) {
            TrustLedger t = alone(0);
            t.propose(0, x);
            due(t, 0, 0, 1 << x, 0, 0);
        }
    }

    private static void whoDoesNotLeadVotesForNoProposal() {
        for (int v = 1; v < 5; v++) {
            TrustLedger t = alone(v);
            t.propose(v, 4);
            Check.due("node 0 leads", t.state(v, 2), 1);
            due(t, v, 0, 0, 0, 0);
        }
    }

    private static void withoutALeaderNobodyIsFollowed() {
        TrustLedger t = alone(1);
        tell(t, 1, 0, 1 << 3, 0, 0);
        due(t, 1, 0, 0, 0, 0);
        t.propose(1, 6);
        due(t, 1, 0, 1 << 3, 0, 0);
    }

    /** Rule A: "or when v knows that a leader has backed NOMINATE x". */
    private static void aVoteOfALeaderIsEnough() {
        TrustLedger t = new TrustLedger(0);
        t.propose(0, 7);
        t.propose(1, 1);
        t.propose(2, 2);
        t.deliver(t.post(0, 0), 1);
        due(t, 1, 0, 1 << 7, 0, 0);
        t.deliver(t.post(1, 0), 2);
        due(t, 2, 0, 0, 0, 0);
    }

    /** "BACKED (voted for or accepted)": node 0 has accepted, but never voted, when it posts. */
    private static void anAcceptanceOfALeaderIsEnough() {
        TrustLedger t = new TrustLedger(0b11100);
        tell(t, 0, 2, 1 << 3, 0, 0);
        tell(t, 0, 3, 1 << 3, 0, 0);
        due(t, 0, 0, 0, 1 << 3, 0);
        t.propose(1, 6);
        t.deliver(t.post(0, 0), 1);
        due(t, 1, 0, 1 << 3, 0, 0);
    }

    /** Node 1 wants two of 0, 1, 2: node 0 can be in no quorum, and node 2 has accepted without a vote. */
    private static void acceptancesCountAmongThoseThatBacked() {
        TrustLedger t = new TrustLedger(0b11000);
        t.trust(0, 5, 31, 0, 0);
        t.trust(1, 2, 0b00111, 0, 0);
        t.trust(2, 1, 0b01000, 0, 0);
        t.trust(3, 1, 0b01000, 0, 0);
        t.propose(0, 5);
        t.propose(1, 1);
        t.deliver(t.post(0, 0), 1);
        tell(t, 1, 3, 1 << 5, 0, 0);
        due(t, 1, 0, 1 << 5, 0, 0);
        tell(t, 2, 3, 1 << 5, 0, 0);
        due(t, 2, 0, 0, 1 << 5, 1 << 5);
        t.deliver(t.post(2, 0), 1);
        due(t, 1, 0, 1 << 5, 1 << 5, 1 << 5);
    }

    /** "if anything changed by them, all of them again": only then rule A sees what rule B accepted. */
    private static void aLeaderThatAcceptedVotesInTheNextPass() {
        TrustLedger t = alone(0);
        t.propose(0, 1);
        tell(t, 0, 1, 1 << 6, 0, 0);
        due(t, 0, 0, 1 << 1, 0, 0);
        tell(t, 0, 2, 1 << 6, 0, 0);
        due(t, 0, 0, 1 << 1 | 1 << 6, 1 << 6, 0);
    }

    /** Rule A: "If no NOMINATE is confirmed". */
    private static void noVoteWhenANominateIsConfirmed() {
        TrustLedger t = alone(0);
        for (int u = 1; u <= 3; u++) {
            tell(t, 0, u, 1 << 2, 0, 0);
        }
        t.propose(0, 5);
        Check.due("it leads", t.state(0, 2), 1);
        due(t, 0, 0, 0, 1 << 2, 1 << 2);
    }

    private static void theVoteComesBeforeTheConfirmation() {
        TrustLedger t = alone(1);
        t.propose(1, 1);
        tell(t, 1, 2, 1 << 2, 0, 0);
        tell(t, 1, 3, 1 << 2, 0, 0);
        due(t, 1, 0, 0, 1 << 2, 0);
        tell(t, 1, 0, 1 << 2 | 1 << 7, 0, 0);
        due(t, 1, 0, 1 << 2 | 1 << 7, 1 << 2, 1 << 2);
    }

    /** "if the nodes that have backed it, as v knows, give a quorum for v". */
    private static void acceptsFromAQuorumOfVotes() {
        TrustLedger t = new TrustLedger(0);
        for (int v = 0; v < 5; v++) {
            t.propose(v, 3);
        }
        int vote = t.post(0, 0);
        for (int v = 1; v < 5; v++) {
            t.deliver(vote, v);
        }
        t.deliver(t.post(1, 0), 4);
        due(t, 4, 0, 1 << 3, 0, 0);
        t.deliver(t.post(2, 0), 4);
        due(t, 4, 0, 1 << 3, 1 << 3, 0);
    }

    /** "or those that have accepted it, as v knows, block the trust of v": two of the four others do. */
    private static void acceptsFromABlockingSetWithoutAVote() {
        TrustLedger t = alone(0);
        int b = Scenes.bit(3, 3);
        tell(t, 0, 1, 1 << 3, b, b);
        for (int kind = 0; kind < 3; kind++) {
            due(t, 0, kind, 0, 0, 0);
        }
        tell(t, 0, 4, 1 << 3, b, b);
        due(t, 0, 0, 0, 1 << 3, 0);
        due(t, 0, 1, 0, b, 0);
        due(t, 0, 2, 0, b, 0);
    }

    /** "v MAY CONFIRM ... (itself too)": three others, and itself as soon as it may accept. */
    private static void confirmsOnlyWithItsOwnAcceptance() {
        TrustLedger t = alone(0);
        for (int u = 1; u <= 3; u++) {
            tell(t, 0, u, 0, 0, Scenes.bit(4, 1));
        }
        Check.due("COMMIT (4, 1) was accepted and confirmed", t.value(0, 0), 1);
        t = new TrustLedger(0b11110);
        t.trust(0, 4, 31, 0, 0);
        tell(t, 0, 1, 0, 0, Scenes.bit(1, 2));
        tell(t, 0, 2, 0, 0, Scenes.bit(1, 2));
        for (int u = 1; u <= 4; u++) {
            tell(t, 0, u, 0, Scenes.bit(2, 3), 0);
        }
        Check.due("four others, but not itself, accept PREPARE", t.statements(0, 0, 1, 2), 0);
        Check.due("as it has accepted a COMMIT against it", t.statements(0, 0, 1, 1), 0);
    }

    /** Rule D: "If the counter is 0 and the composite is not". */
    private static void preparesOnceOnly() {
        TrustLedger t = alone(0);
        tell(t, 0, 1, 1 << 1 | 1 << 2, 0, 0);
        tell(t, 0, 2, 1 << 1 | 1 << 2, 0, 0);
        Check.due("composite", t.state(0, 4), 0);
        Check.due("counter", t.state(0, 3), 0);
        tell(t, 0, 3, 1 << 1, 0, 0);
        Check.due("counter becomes 1", t.state(0, 3), 1);
        due(t, 0, 1, Scenes.bit(1, 1), 0, 0);
        tell(t, 0, 3, 1 << 2, 0, 0);
        Check.due("composite grows", t.state(0, 4), 3);
        Check.due("counter stays 1", t.state(0, 3), 1);
        due(t, 0, 1, Scenes.bit(1, 1), 0, 0);
    }

    /** "that of the greatest ballot whose PREPARE is confirmed": by rule F, which comes after D. */
    private static void preparesTheGreatestConfirmed() {
        TrustLedger t = alone(0);
        for (int u = 1; u <= 3; u++) {
            tell(t, 0, u, 1 << 1, Scenes.bit(4, 6), 0);
        }
        due(t, 0, 1, Scenes.bit(1, 1), Scenes.bit(4, 6), Scenes.bit(4, 6));
        t = alone(0);
        for (int u = 1; u <= 3; u++) {
            tell(t, 0, u, 0, Scenes.bit(1, 6) | Scenes.bit(2, 5), 0);
        }
        for (int u = 1; u <= 3; u++) {
            tell(t, 0, u, 1 << 1, 0, 0);
        }
        Check.due("value 5 of (2, 5)", t.statements(0, 0, 1, 0), Scenes.bit(1, 5));
    }

    /** "the rules A to H in their order": E comes before H, when both may be accepted by the same envelope. */
    private static void prepareIsAcceptedBeforeCommit() {
        TrustLedger t = alone(0);
        tell(t, 0, 1, 0, Scenes.bit(2, 3), Scenes.bit(1, 5));
        tell(t, 0, 2, 0, Scenes.bit(2, 3), Scenes.bit(1, 5));
        due(t, 0, 1, 0, Scenes.bit(2, 3), 0);
        due(t, 0, 2, 0, 0, 0);
    }

    /** Rule G: "for each b whose PREPARE is confirmed", be it accepted already or not. */
    private static void votesForACommitThatItHasAccepted() {
        TrustLedger t = alone(0);
        int b = Scenes.bit(2, 2);
        tell(t, 0, 1, 0, b, b);
        tell(t, 0, 2, 0, b, b);
        due(t, 0, 2, 0, b, 0);
        tell(t, 0, 3, 0, b, 0);
        due(t, 0, 1, 0, b, b);
        due(t, 0, 2, b, b, 0);
    }

    /** Rule H: "v accepts COMMIT b if it may accept it; then it confirms it if it may confirm it". */
    private static void commitIsAcceptedAndConfirmedAtOnce() {
        TrustLedger t = new TrustLedger(0b11110);
        t.trust(0, 2, 0b00011, 0, 0);
        t.trust(1, 1, 0b00010, 0, 0);
        tell(t, 0, 1, 0, 0, Scenes.bit(1, 5) | Scenes.bit(2, 3));
        due(t, 0, 2, 0, Scenes.bit(1, 5), Scenes.bit(1, 5));
        Check.due("value", t.value(0, 0), 5);
    }

    /** "Within a rule values and ballots are taken one by one in ascending order". */
    private static void theLeastCommitEndsTheSlot() {
        int[] ballots = {0, 6, 7, 13, 14, 20, 21, 27};
        for (int least : ballots) {
            for (int other : ballots) {
                TrustLedger t = alone(0);
                for (int u = 1; u <= 3; u++) {
                    tell(t, 0, u, 0, 0, 1 << least | 1 << other);
                }
                int first = Math.min(least, other);
                Check.due("confirmed of " + least + " and " + other, t.statements(0, 0, 2, 2), 1 << first);
                Check.due("value of " + least + " and " + other, t.value(0, 0), first % 7 + 1);
            }
        }
    }

    /** "As soon as a COMMIT (n, x) is confirmed, stirring ends": rule A does not come again. */
    private static void nothingIsDoneAfterTheEnd() {
        TrustLedger t = alone(0);
        int b = Scenes.bit(1, 4);
        t.propose(0, 1);
        tell(t, 0, 2, 1 << 6, 0, b);
        tell(t, 0, 3, 0, 0, b);
        tell(t, 0, 1, 1 << 6, 0, b);
        Check.due("value", t.value(0, 0), 4);
        due(t, 0, 0, 1 << 1, 1 << 6, 0);
        due(t, 0, 2, 0, b, b);
    }

    /** "what it has of this slot is kept as it is, ... and v is in the next slot, with nothing there". */
    private static void theNextSlotIsEmpty() {
        TrustLedger t = alone(0);
        t.propose(0, 1);
        t.timeout(0);
        for (int u = 1; u <= 3; u++) {
            tell(t, 0, u, 1 << 1 | 1 << 2, Scenes.bit(1, 3) | Scenes.bit(2, 6), 0);
        }
        for (int u = 1; u <= 3; u++) {
            tell(t, 0, u, 0, 0, Scenes.bit(2, 6));
        }
        int[] due = {1, 0, 0, 0, 0, 0};
        for (int what = 0; what < 6; what++) {
            Check.due("state(0, " + what + ")", t.state(0, what), due[what]);
        }
        for (int i = 0; i < 9; i++) {
            Check.due("statements of slot 1", t.statements(0, 1, i / 3, i % 3), 0);
        }
        Check.due("no value of slot 1", t.value(0, 1), 0);
        due(t, 0, 0, 1 << 1 | 1 << 2, 1 << 1 | 1 << 2, 1 << 1 | 1 << 2);
        due(t, 0, 1, Scenes.bit(1, 3), Scenes.bit(1, 3) | Scenes.bit(2, 6), Scenes.bit(1, 3) | Scenes.bit(2, 6));
        due(t, 0, 2, Scenes.bit(2, 6), Scenes.bit(2, 6), Scenes.bit(2, 6));
        tell(t, 0, 1, 1 << 1, 0, 0);
        Check.due("what the others said of slot 0 does not count", t.statements(0, 1, 0, 1), 0);
    }

    /** "when it has done slot 2, it is in slot 3, where nothing happens any more". */
    private static void nothingHappensInSlotThree() {
        TrustLedger t = alone(0);
        for (int slot = 0; slot < 3; slot++) {
            for (int u = 1; u <= 3; u++) {
                tell(t, 0, u, 0, 0, Scenes.bit(1, 7));
            }
            Check.due("slot", t.state(0, 0), slot + 1);
        }
        int header = t.header(0);
        Check.due("propose", t.propose(0, 1), false);
        Check.due("timeout", t.timeout(0), false);
        for (int k = 0; k < t.envelopes(); k++) {
            Check.due("deliver", t.deliver(k, 0), false);
        }
        Check.due("forge of slot 3", t.forge(1, 3, 2, 1, 1), -1);
        Check.due("slot stays 3", t.state(0, 0), 3);
        Check.due("header stays", t.header(0), header);
    }
}
