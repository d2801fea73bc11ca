/**
 * The boundary cases in the terms of trust: what satisfies it, what blocks it, and what a quorum is.
 * Node 0 is the good one; it leads the first round of slot 0 whomever it trusts, so that it votes for what it proposes.
 */
public final class TermsTrustTest {
    private static final int X = 5;

    public static void main(String[] args) {
        satisfiedFromTheThresholdOn();
        innerGroupFromItsThresholdOn();
        eachMemberCountsForOne();
        memberOfBothCountsInBoth();
        blockedWhenTheOthersAreTooFew();
        everyTrustAndEverySet();
        blockedByNobodyWhenNobodySatisfies();
        fourOfFiveAtFirst();
        noInnerGroupAtFirst();
        quorumSatisfiesEachNodeInIt();
        quorumMayBeLessThanTheSet();
        quorumForANodeHasThatNodeInIt();
        quorumNeedsNoTrustInItself();
        quorumIsFoundAfterAllOthersFell();
        quorumIsFoundAmongAllSets();
        Check.end();
    }

    /** The other nodes are faulty and trust themselves alone, so that they fit into any quorum. */
    private static TrustLedger trusting(int threshold, int members, int inner, int group) {
        TrustLedger t = new TrustLedger(0b11110);
        for (int u = 1; u < 5; u++) {
            t.trust(u, 1, 1 << u, 0, 0);
        }
        Check.due("trust", t.trust(0, threshold, members, inner, group), true);
        return t;
    }

    /** Each node of the set but node 0 says that it has accepted NOMINATE X. */
    private static void tell(TrustLedger t, int set) {
        for (int u = 1; u < 5; u++) {
            if ((set >> u & 1) == 1) {
                t.deliver(t.forge(u, 0, 1 << X, 0, 0), 0);
            }
        }
    }

    /** Node 0 confirms NOMINATE X, which it votes for itself, just when the set with it satisfies its trust. */
    private static boolean isSatisfied(int set, int threshold, int members, int inner, int group) {
        TrustLedger t = trusting(threshold, members, inner, group);
        t.propose(0, X);
        tell(t, set);
        return (t.statements(0, 0, 0, 2) >> X & 1) == 1;
    }

    /** Without a vote of its own node 0 accepts NOMINATE X just when the set blocks its trust. */
    private static boolean isBlocked(int set, int threshold, int members, int inner, int group) {
        TrustLedger t = trusting(threshold, members, inner, group);
        t.deliver(t.forge(1, 0, 0, 0, 0), 0);
        tell(t, set);
        return (t.statements(0, 0, 0, 1) >> X & 1) == 1;
    }

    private static boolean satisfies(int set, int threshold, int members, int inner, int group) {
        int count = 0;
        int ofGroup = 0;
        for (int u = 0; u < 5; u++) {
            count += (set >> u & 1) == 1 && (members >> u & 1) == 1 ? 1 : 0;
            ofGroup += (set >> u & 1) == 1 && (group >> u & 1) == 1 ? 1 : 0;
        }
        count += inner > 0 && ofGroup >= inner ? 1 : 0;
        return count >= threshold;
    }

    /** "A set S SATISFIES it if as many as T at least of these are so". */
    private static void satisfiedFromTheThresholdOn() {
        for (int threshold = 1; threshold <= 5; threshold++) {
            int enough = (1 << threshold) - 1;
            Check.due(threshold + " of five, one too few", isSatisfied(enough >> 1, threshold, 31, 0, 0), threshold == 1);
            Check.due(threshold + " of five, just enough", isSatisfied(enough, threshold, 31, 0, 0), true);
            Check.due(threshold + " of five, all", isSatisfied(31, threshold, 31, 0, 0), true);
        }
        Check.due("six of five and a group, all but one", isSatisfied(0b01111, 6, 31, 5, 31), false);
        Check.due("six of five and a group, all", isSatisfied(31, 6, 31, 5, 31), true);
    }

    /** "the inner group, if as many as t of m are in S" and "a threshold t (at least 1)". */
    private static void innerGroupFromItsThresholdOn() {
        for (int inner = 1; inner <= 4; inner++) {
            int enough = (1 << inner) - 1 << 1;
            Check.due(inner + " of the group, one too few", isSatisfied(enough >> 1 & 30, 2, 1, inner, 30), false);
            Check.due(inner + " of the group, just enough", isSatisfied(enough, 2, 1, inner, 30), true);
        }
        Check.due("five of a group of four", isSatisfied(31, 2, 1, 5, 30), false);
        Check.due("five of a group of five", isSatisfied(31, 2, 1, 5, 31), true);
        Check.due("one of an empty group", isSatisfied(31, 2, 1, 1, 0), false);
        Check.due("no group, though members of it are told", isSatisfied(31, 2, 1, 0, 30), false);
    }

    /** "a member that is in S, each for one": who is no member does not count, and the group counts for one alone. */
    private static void eachMemberCountsForOne() {
        Check.due("two members", isSatisfied(0b00011, 2, 0b00011, 0, 0), true);
        Check.due("one member, and others", isSatisfied(0b11101, 2, 0b00011, 0, 0), false);
        Check.due("no members at all", isSatisfied(31, 1, 0, 0, 0), false);
        Check.due("no members, but a group", isSatisfied(0b00010, 1, 0, 1, 0b00010), true);
        Check.due("a group of four counts for one", isSatisfied(31, 3, 1, 1, 30), false);
    }

    private static void memberOfBothCountsInBoth() {
        Check.due("node 1 as a member and as the group", isSatisfied(0b00010, 2, 0b00010, 1, 0b00010), true);
        Check.due("node 0 itself in both", isSatisfied(0, 2, 1, 1, 1), true);
    }

    /** "S BLOCKS it if the set of all nodes that are not in S does not satisfy it". */
    private static void blockedWhenTheOthersAreTooFew() {
        Check.due("1 of five: four", isBlocked(30, 1, 31, 0, 0), false);
        Check.due("1 of nodes 1 .. 4: three", isBlocked(0b01110, 1, 30, 0, 0), false);
        Check.due("1 of nodes 1 .. 4: four", isBlocked(30, 1, 30, 0, 0), true);
        Check.due("5 of five: one", isBlocked(0b00010, 5, 31, 0, 0), true);
        Check.due("5 of five: none", isBlocked(0, 5, 31, 0, 0), false);
        Check.due("who is no member blocks nothing", isBlocked(0b11100, 2, 0b00011, 0, 0), false);
    }

    /** Every threshold, every set of members and every inner threshold, with groups among all sets. */
    private static void everyTrustAndEverySet() {
        for (int i = 0; i < 6 * 32 * 6; i++) {
            int threshold = 1 + i % 6;
            int members = i / 6 % 32;
            int inner = i / 192;
            for (int set = 0; set < 32; set += 2) {
                int group = (i * 7 + set) % 32;
                String trust = threshold + " of " + members + " with " + inner + " of " + group;
                boolean blocks = !satisfies(31 - set, threshold, members, inner, group);
                Check.due(set + " blocks " + trust, isBlocked(set, threshold, members, inner, group), blocks);
                boolean enough = satisfies(set | 1, threshold, members, inner, group);
                Check.due(set + " satisfies " + trust, isSatisfied(set, threshold, members, inner, group), enough);
            }
        }
    }

    /** The empty set blocks what not even all satisfy: a node that trusts so accepts whatever it may, once stirred. */
    private static void blockedByNobodyWhenNobodySatisfies() {
        TrustLedger t = trusting(6, 31, 0, 0);
        int empty = t.forge(1, 0, 0, 0, 0);
        Check.due("not stirred yet", t.statements(0, 0, 0, 1), 0);
        t.deliver(empty, 0);
        Check.due("stirred by an envelope that holds nothing", t.statements(0, 0, 0, 1), 0xFE);
        Check.due("nothing is confirmed by that", t.statements(0, 0, 0, 2), 0);
        t = trusting(6, 31, 5, 31);
        t.deliver(t.forge(1, 0, 0, 0, 0), 0);
        Check.due("six of six can be satisfied", t.statements(0, 0, 0, 1), 0);
    }

    /** "At first all trust 4 of the five, without an inner group". */
    private static void fourOfFiveAtFirst() {
        for (int v = 0; v < 5; v++) {
            TrustLedger t = new TrustLedger(31 - (1 << v));
            int told = 0;
            for (int u = 0; u < 5; u++) {
                if (u != v) {
                    t.deliver(t.forge(u, 0, 1 << X, 0, 0), v);
                    told++;
                    Check.due("node " + v + ": " + told + " block", t.statements(v, 0, 0, 1), told >= 2 ? 1 << X : 0);
                    Check.due("node " + v + ": " + told + " and itself", t.statements(v, 0, 0, 2), told >= 3 ? 1 << X : 0);
                }
            }
        }
    }

    private static void noInnerGroupAtFirst() {
        // The four others trust at first as node 0 does: three of them and a group would be enough.
        TrustLedger t = new TrustLedger(0b11110);
        t.propose(0, X);
        tell(t, 0b00110);
        Check.due("three of five", t.statements(0, 0, 0, 2), 0);
    }

    /** "A set U is a QUORUM if it satisfies the trust of each node in it." */
    private static void quorumSatisfiesEachNodeInIt() {
        TrustLedger t = trusting(2, 0b00011, 0, 0);
        t.trust(1, 3, 0b00111, 0, 0);
        t.propose(0, X);
        tell(t, 0b00010);
        Check.due("node 1 wants three", t.statements(0, 0, 0, 2), 0);
        tell(t, 0b00100);
        Check.due("node 1 has three", t.statements(0, 0, 0, 2), 1 << X);
    }

    /** "a quorum FOR v, if some quorum within S has v in it". */
    private static void quorumMayBeLessThanTheSet() {
        TrustLedger t = trusting(2, 0b00011, 0, 0);
        t.trust(2, 5, 31, 0, 0);
        t.trust(3, 1, 0b00100, 0, 0);
        t.propose(0, X);
        tell(t, 0b01100);
        Check.due("node 2 is not satisfied, and so node 3 neither", t.statements(0, 0, 0, 1), 0);
        tell(t, 0b00010);
        Check.due("0 and 1 are a quorum without 2 and 3", t.statements(0, 0, 0, 2), 1 << X);
        t = trusting(2, 0b01001, 0, 0);
        t.trust(2, 5, 31, 0, 0);
        t.trust(3, 1, 0b00100, 0, 0);
        t.propose(0, X);
        tell(t, 0b01100);
        Check.due("3 blocks", t.statements(0, 0, 0, 1), 1 << X);
        Check.due("but falls with 2, and 0 with 3", t.statements(0, 0, 0, 2), 0);
    }

    private static void quorumForANodeHasThatNodeInIt() {
        TrustLedger t = trusting(1, 0b00110, 0, 0);
        tell(t, 0b00010);
        Check.due("node 1 is a quorum, but not for 0", t.statements(0, 0, 0, 1), 0);
        t.propose(0, X);
        Check.due("0 and 1 are one, as 0 has voted", t.statements(0, 0, 0, 1), 1 << X);
        t = trusting(4, 31, 0, 0);
        t.propose(0, 1);
        tell(t, 0b00010);
        Check.due("node 0 is in the set, but not in the quorum", t.statements(0, 0, 0, 2), 0);
    }

    /** Node 4 is not satisfied; hence 3 is not, hence 2, hence 1: what remains is node 0, which is a quorum alone. */
    private static void quorumIsFoundAfterAllOthersFell() {
        TrustLedger t = new TrustLedger(0b11110);
        t.trust(0, 1, 1, 0, 0);
        for (int u = 1; u < 4; u++) {
            t.trust(u, 1, 1 << u + 1, 0, 0);
        }
        t.trust(4, 6, 31, 0, 0);
        tell(t, 0b11110);
        t.propose(0, X);
        Check.due("node 0 needs nobody", t.value(0, 0), X);
    }

    /** Mixed trusts of all five nodes: the quorum is looked for here among all sets. */
    private static void quorumIsFoundAmongAllSets() {
        long seed = 1;
        for (int run = 0; run < 2000; run++) {
            int[][] trusts = new int[5][];
            TrustLedger t = new TrustLedger(0b11110);
            for (int u = 0; u < 5; u++) {
                seed = seed * 6364136223846793005L + 1442695040888963407L;
                int r = (int) (seed >>> 36);
                trusts[u] = new int[] {1 + r % 4, r / 4 % 32, r / 128 % 4, r / 512 % 32};
                t.trust(u, trusts[u][0], trusts[u][1], trusts[u][2], trusts[u][3]);
            }
            int set = 1 | run % 32;
            t.propose(0, X);
            tell(t, set);
            Check.due("run " + run, t.statements(0, 0, 0, 2) >> X & 1, hasQuorumForZero(set, trusts) ? 1 : 0);
        }
    }

    private static boolean hasQuorumForZero(int set, int[][] trusts) {
        boolean found = false;
        for (int within = 1; within < 32; within += 2) {
            boolean quorum = (within & set) == within;
            for (int u = 0; u < 5; u++) {
                int[] trust = trusts[u];
                quorum &= (within >> u & 1) == 0 || satisfies(within, trust[0], trust[1], trust[2], trust[3]);
            }
            found |= quorum;
        }
        return found;
    }

    private static void quorumNeedsNoTrustInItself() {
        Check.due("node 0 trusts node 1 alone", isSatisfied(0b00010, 1, 0b00010, 0, 0), true);
        Check.due("and not itself", isSatisfied(0, 1, 0b00010, 0, 0), false);
    }
}
