/** The boundary cases in the terms of values and ballots: which there are, their numbers, and what aborts what. */
public final class TermsBallotTest {
    private static final int BALLOTS = 28;

    public static void main(String[] args) {
        valuesAreOneToSeven();
        compositeIsTheUnion();
        compositeIsZeroWithoutAny();
        numbersOfBallots();
        ballotsAreZeroToTwentySeven();
        noPrepareThatAbortsAnAcceptedCommit();
        noCommitThatAnAcceptedPrepareAborts();
        noVoteForACommitThatAnAcceptedPrepareAborts();
        noVoteForACommitThatAVotedPrepareAborts();
        Check.end();
    }

    /** As the document says it: all that are less than it and have another value. */
    private static boolean aborts(int ballot, int other) {
        return other < ballot && other % 7 != ballot % 7;
    }

    private static String pair(int b, int c) {
        return "(" + (b / 7 + 1) + ", " + (b % 7 + 1) + ") and (" + (c / 7 + 1) + ", " + (c % 7 + 1) + ")";
    }

    /** "VALUES 1 .. 7 ...; the set of values x is written with bit x". */
    private static void valuesAreOneToSeven() {
        for (int bit = 0; bit < 32; bit++) {
            TrustLedger t = Scenes.oneGood();
            Scenes.tellZero(t, 2, 1 << bit, 0, 0);
            Check.due("value " + bit, t.statements(0, 0, 0, 1), bit >= 1 && bit <= 7 ? 1 << bit : 0);
        }
    }

    /** "the COMPOSITE: the union of all values whose NOMINATE is confirmed". */
    private static void compositeIsTheUnion() {
        for (int values = 0; values < 256; values += 2) {
            TrustLedger t = Scenes.oneGood();
            Scenes.tellZero(t, 3, values, 0, 0);
            int union = 0;
            for (int x = 1; x <= 7; x++) {
                union |= (values >> x & 1) == 1 ? x : 0;
            }
            Check.due("composite of " + values, t.state(0, 4), union);
            Check.due("prepared of " + values, t.statements(0, 0, 1, 0), union == 0 ? 0 : Scenes.bit(1, union));
        }
    }

    /** "(0 if there is none)": what is accepted and not confirmed does not count. */
    private static void compositeIsZeroWithoutAny() {
        TrustLedger t = Scenes.oneGood();
        Scenes.tellZero(t, 2, 0xFE, 0, 0);
        Check.due("all are accepted", t.statements(0, 0, 0, 1), 0xFE);
        Check.due("but none is confirmed", t.state(0, 4), 0);
        Check.due("so the counter stays 0", t.state(0, 3), 0);
    }

    /** "their number is 7 * (n - 1) + x - 1". */
    private static void numbersOfBallots() {
        for (int x = 1; x <= 7; x++) {
            TrustLedger t = Scenes.oneGood();
            t.propose(0, x);
            Scenes.tellZero(t, 3, 1 << x, 0, 0);
            int voted = 0;
            for (int n = 1; n <= 4; n++) {
                voted |= 1 << 7 * (n - 1) + x - 1;
                Check.due("voted up to (" + n + ", " + x + ")", t.statements(0, 0, 1, 0), voted);
                t.timeout(0);
            }
            Check.due("there is no counter 5", t.statements(0, 0, 1, 0), voted);
        }
    }

    private static void ballotsAreZeroToTwentySeven() {
        for (int bit = 0; bit < 32; bit++) {
            TrustLedger t = Scenes.oneGood();
            Scenes.tellZero(t, 2, 0, 1 << bit, 0);
            Check.due("PREPARE of ballot " + bit, t.statements(0, 0, 1, 1), bit < BALLOTS ? 1 << bit : 0);
            t = Scenes.oneGood();
            Scenes.tellZero(t, 2, 0, 0, 1 << bit);
            Check.due("COMMIT of ballot " + bit, t.statements(0, 0, 2, 1), bit < BALLOTS ? 1 << bit : 0);
        }
    }

    /** "but not PREPARE b if v has accepted COMMIT of a ballot that b aborts". */
    private static void noPrepareThatAbortsAnAcceptedCommit() {
        for (int b = 0; b < BALLOTS; b++) {
            for (int c = 0; c < BALLOTS; c++) {
                TrustLedger t = Scenes.oneGood();
                Scenes.tellZero(t, 2, 0, 0, 1 << c);
                Scenes.tellZero(t, 2, 0, 1 << b, 0);
                Check.due("PREPARE and COMMIT of " + pair(b, c), t.statements(0, 0, 1, 1), aborts(b, c) ? 0 : 1 << b);
            }
        }
    }

    /** "nor COMMIT b if v has accepted PREPARE of a ballot that aborts b". */
    private static void noCommitThatAnAcceptedPrepareAborts() {
        for (int b = 0; b < BALLOTS; b++) {
            for (int c = 0; c < BALLOTS; c++) {
                TrustLedger t = Scenes.oneGood();
                Scenes.tellZero(t, 2, 0, 1 << c, 0);
                Scenes.tellZero(t, 2, 0, 0, 1 << b);
                Check.due("COMMIT and PREPARE of " + pair(b, c), t.statements(0, 0, 2, 1), aborts(c, b) ? 0 : 1 << b);
            }
        }
    }

    /** "unless it has ... accepted PREPARE of a ballot that aborts b". */
    private static void noVoteForACommitThatAnAcceptedPrepareAborts() {
        for (int b = 0; b < BALLOTS; b++) {
            for (int c = 0; c < BALLOTS; c++) {
                TrustLedger t = Scenes.oneGood();
                Scenes.tellZero(t, 2, 0, 1 << c, 0);
                Scenes.tellZero(t, 3, 0, 1 << b, 0);
                Check.due("confirmed " + b, t.statements(0, 0, 1, 2), 1 << b);
                Check.due("COMMIT after PREPARE of " + pair(b, c), t.statements(0, 0, 2, 0), aborts(c, b) ? 0 : 1 << b);
            }
        }
    }

    /** "unless it has voted for ... PREPARE of a ballot that aborts b": voted for up to (4, x), accepted none of these. */
    private static void noVoteForACommitThatAVotedPrepareAborts() {
        for (int x = 1; x <= 7; x++) {
            for (int n = 1; n <= 4; n++) {
                for (int b = 0; b < BALLOTS; b++) {
                    TrustLedger t = Scenes.oneGood();
                    t.propose(0, x);
                    Scenes.tellZero(t, 3, 1 << x, 0, 0);
                    for (int i = 1; i < n; i++) {
                        t.timeout(0);
                    }
                    int c = 7 * (n - 1) + x - 1;
                    Scenes.tellZero(t, 3, 0, 1 << b, 0);
                    Check.due("COMMIT after a vote, " + pair(b, c), t.statements(0, 0, 2, 0), aborts(c, b) ? 0 : 1 << b);
                }
            }
        }
    }
}
