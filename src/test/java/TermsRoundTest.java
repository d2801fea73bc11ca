/** The boundary cases in the terms of rounds: who leads, and what a proposal and a timeout do. */
public final class TermsRoundTest {
    public static void main(String[] args) {
        leadersAreChosenAmongThoseItTrusts();
        itselfMayLeadThoughItIsNoMember();
        membersOfTheGroupLeadOnlyWithAGroup();
        leadersAreGathered();
        roundsGoOnWithoutABound();
        leadersOfEverySlot();
        aProposalBeginsTheFirstRoundOnly();
        noTimeoutWithoutARound();
        aTimeoutWithoutACompositeIsANewRound();
        aTimeoutWithACompositeRaisesTheCounter();
        theCounterEndsAtFour();
        aTimeoutStirs();
        Check.end();
    }

    private static int rank(int u, int slot, int round) {
        return (37 * u + 61 * slot + 17 * round) * 29 % 101;
    }

    /** Of equal ones it would be the least u; but no two of five nodes are ever equal, as 37 * 29 and 101 have no common divisor. */
    private static int leader(int candidates, int slot, int round) {
        int best = -1;
        for (int u = 0; u < 5; u++) {
            boolean in = (candidates >> u & 1) == 1;
            if (in && (best < 0 || rank(u, slot, round) > rank(best, slot, round))) {
                best = u;
            }
        }
        return best;
    }

    private static void dueInRounds(String name, TrustLedger t, int v, int candidates, int rounds) {
        int leaders = 0;
        t.propose(v, 1);
        for (int round = 1; round <= rounds; round++) {
            leaders |= 1 << leader(candidates, 0, round);
            Check.due(name + ", round", t.state(v, 1), round);
            Check.due(name + ", leaders in round " + round, t.state(v, 2), leaders);
            Check.due(name + ", timeout", t.timeout(v), true);
        }
    }

    /** "of the nodes that are v itself, members of its trust, or members of its inner group if there is one". */
    private static void leadersAreChosenAmongThoseItTrusts() {
        for (int v = 0; v < 5; v++) {
            for (int members = 0; members < 32; members++) {
                TrustLedger t = new TrustLedger(0);
                t.trust(v, 5, members | 1 << v, 5, 31 - members);
                t.trust(v, 2, members | 1 << (v + 1) % 5, 0, 31);
                dueInRounds("node " + v + ", members " + members, t, v, members | 1 << v | 1 << (v + 1) % 5, 8);
            }
        }
    }

    private static void itselfMayLeadThoughItIsNoMember() {
        for (int v = 0; v < 5; v++) {
            TrustLedger t = new TrustLedger(0);
            t.trust(v, 1, 0, 1, 0);
            t.propose(v, 1);
            Check.due("node " + v + " trusts nobody and leads itself", t.state(v, 2), 1 << v);
        }
        TrustLedger t = new TrustLedger(0);
        t.trust(0, 1, 0b11110, 0, 0);
        t.propose(0, 1);
        Check.due("node 0 trusts the others, but ranks before them", t.state(0, 2), 1);
    }

    private static void membersOfTheGroupLeadOnlyWithAGroup() {
        for (int group = 0; group < 32; group++) {
            for (int inner = 0; inner < 2; inner++) {
                TrustLedger t = new TrustLedger(0);
                t.trust(2, 2, 0b00110, inner, group);
                t.propose(2, 1);
                int candidates = 0b00110 | (inner > 0 ? group : 0);
                Check.due("inner " + inner + " of " + group, t.state(2, 2), 1 << leader(candidates, 0, 1));
            }
        }
    }

    /** "becomes a leader (if it is not)": the earlier ones stay. */
    private static void leadersAreGathered() {
        TrustLedger t = new TrustLedger(0);
        dueInRounds("all five", t, 3, 31, 40);
        Check.due("each has led once", t.state(3, 2), 31);
    }

    private static void roundsGoOnWithoutABound() {
        TrustLedger t = new TrustLedger(0);
        t.propose(4, 1);
        for (int round = 2; round <= 500; round++) {
            t.timeout(4);
        }
        Check.due("the five hundredth round", t.state(4, 1), 500);
    }

    /** "37 * u + 61 * slot + 17 * round". */
    private static void leadersOfEverySlot() {
        for (int v = 0; v < 5; v++) {
            TrustLedger t = new TrustLedger(31 - (1 << v));
            for (int slot = 0; slot < 3; slot++) {
                t.propose(v, 1);
                int leaders = 1 << leader(31, slot, 1);
                Check.due("round 1 of slot " + slot, t.state(v, 2), leaders);
                t.timeout(v);
                t.timeout(v);
                leaders |= 1 << leader(31, slot, 2) | 1 << leader(31, slot, 3);
                Check.due("round 3 of slot " + slot, t.state(v, 2), leaders);
                Check.due("the rounds begin anew in each slot", t.state(v, 1), 3);
                for (int u = 1; u <= 3; u++) {
                    t.deliver(t.forge((v + u) % 5, slot, 0, 0, 1), v);
                }
            }
            Check.due("slot", t.state(v, 0), 3);
        }
    }

    /** "if the round is 0, there is a NEW ROUND": a second, refused proposal begins none. */
    private static void aProposalBeginsTheFirstRoundOnly() {
        TrustLedger t = new TrustLedger(0);
        Check.due("no round at first", t.state(1, 1), 0);
        Check.due("no leaders at first", t.state(1, 2), 0);
        t.propose(1, 1);
        t.propose(1, 1);
        t.propose(1, 2);
        Check.due("round", t.state(1, 1), 1);
        t.timeout(1);
        t.propose(1, 2);
        Check.due("round", t.state(1, 1), 2);
    }

    private static void noTimeoutWithoutARound() {
        TrustLedger t = new TrustLedger(0b11110);
        Check.due("at first", t.timeout(0), false);
        Scenes.tellZero(t, 3, 2, 0, 0);
        Check.due("with a composite, too", t.timeout(0), false);
        Check.due("the counter stays", t.state(0, 3), 1);
        t.propose(0, 1);
        Check.due("with a round", t.timeout(0), true);
        Check.due("the counter grows", t.state(0, 3), 2);
    }

    /** "with a composite that is 0: a NEW ROUND". */
    private static void aTimeoutWithoutACompositeIsANewRound() {
        TrustLedger t = new TrustLedger(0b11110);
        t.propose(0, 1);
        Scenes.tellZero(t, 2, 0xFE, 0, 0);
        Scenes.tellZero(t, 3, 0, Scenes.bit(1, 1), 0);
        Check.due("nothing is nominated, though PREPARE is confirmed", t.state(0, 4), 0);
        t.timeout(0);
        Check.due("round", t.state(0, 1), 2);
        Check.due("counter", t.state(0, 3), 0);
        Check.due("no vote to prepare", t.statements(0, 0, 1, 0), 0);
    }

    /** "otherwise, if the counter is below 4, it grows by 1, and v votes for PREPARE (counter, the value to prepare)". */
    private static void aTimeoutWithACompositeRaisesTheCounter() {
        TrustLedger t = new TrustLedger(0b11110);
        t.propose(0, 1);
        Scenes.tellZero(t, 3, 1 << 2, 0, 0);
        t.timeout(0);
        Check.due("round", t.state(0, 1), 1);
        Check.due("counter", t.state(0, 3), 2);
        Check.due("voted", t.statements(0, 0, 1, 0), Scenes.bit(1, 2) | Scenes.bit(2, 2));
    }

    private static void theCounterEndsAtFour() {
        TrustLedger t = new TrustLedger(0b11110);
        t.propose(0, 1);
        Scenes.tellZero(t, 3, 1 << 7, 0, 0);
        int[] counters = {2, 3, 4, 4, 4};
        for (int counter : counters) {
            Check.due("timeout", t.timeout(0), true);
            Check.due("counter", t.state(0, 3), counter);
        }
        int all = Scenes.bit(1, 7) | Scenes.bit(2, 7) | Scenes.bit(3, 7) | Scenes.bit(4, 7);
        Check.due("voted", t.statements(0, 0, 1, 0), all);
        Check.due("round", t.state(0, 1), 1);
        Check.due("a new composite", t.state(0, 4), 7);
    }

    /** "then v is stirred": the vote completes a quorum, and the slot ends within the call. */
    private static void aTimeoutStirs() {
        TrustLedger t = new TrustLedger(0b00010);
        t.trust(0, 2, 0b00111, 0, 0);
        t.trust(1, 1, 0b00010, 0, 0);
        t.propose(0, 3);
        t.deliver(t.forge(1, 0, 1 << 3, Scenes.bit(2, 3), Scenes.bit(2, 3)), 0);
        Check.due("counter", t.state(0, 3), 1);
        Check.due("timeout", t.timeout(0), true);
        Check.due("value", t.value(0, 0), 3);
    }
}
