/** Promise 11: statements. */
public final class Promise11Test {
    public static void main(String[] args) {
        refusesWrongInputs();
        tellsVotedAcceptedConfirmedApart();
        keepsThemOfSlotsThatWereLeft();
        hasNothingOfSlotsAboveItsOwn();
        Check.end();
    }

    private static void refusesWrongInputs() {
        TrustLedger t = new TrustLedger(4);
        int[][] wrong = {
            {-1, 0, 0, 0}, {5, 0, 0, 0}, {2, 0, 0, 0}, {0, -1, 0, 0}, {0, 3, 0, 0}, {0, 0, -1, 0}, {0, 0, 3, 0},
            {0, 0, 0, -1}, {0, 0, 0, 3}, {Integer.MAX_VALUE, 0, 0, 0}, {0, 0, 0, Integer.MIN_VALUE},
        };
        for (int[] w : wrong) {
            Check.due("statements " + java.util.Arrays.toString(w), t.statements(w[0], w[1], w[2], w[3]), -1);
        }
        for (int kind = 0; kind < 3; kind++) {
            Check.due("a slot above its own", t.statements(0, 2, kind, 2), 0);
        }
    }

    private static void tellsVotedAcceptedConfirmedApart() {
        TrustLedger t = Scenes.oneGood();
        t.propose(0, 3);
        Scenes.tellZero(t, 2, 1 << 5, Scenes.bit(4, 2), Scenes.bit(4, 2));
        t.deliver(t.forge(3, 0, 0, Scenes.bit(4, 2), 0), 0);
        int[][] due = {
            {1 << 3 | 1 << 5, 1 << 5, 0},
            {0, Scenes.bit(4, 2), Scenes.bit(4, 2)},
            {Scenes.bit(4, 2), Scenes.bit(4, 2), 0},
        };
        for (int kind = 0; kind < 3; kind++) {
            for (int how = 0; how < 3; how++) {
                Check.due("kind " + kind + ", how " + how, t.statements(0, 0, kind, how), due[kind][how]);
            }
        }
    }

    /** "0 for a slot above its own". */
    private static void hasNothingOfSlotsAboveItsOwn() {
        TrustLedger t = Scenes.loners();
        for (int own = 0; own < 3; own++) {
            for (int slot = 0; slot < 3; slot++) {
                for (int i = 0; i < 9; i++) {
                    int set = t.statements(3, slot, i / 3, i % 3);
                    Check.due("slot " + slot + " from slot " + own, set != 0, slot < own);
                }
            }
            t.propose(3, 7);
        }
        t = Scenes.oneGood();
        t.deliver(t.forge(1, 1, 0xFE, 0, 0), 0);
        t.deliver(t.forge(2, 1, 0xFE, 0, 0), 0);
        Check.due("nothing is learnt of a slot above", t.statements(0, 1, 0, 1), 0);
    }

    private static void keepsThemOfSlotsThatWereLeft() {
        TrustLedger t = Scenes.loners();
        t.propose(3, 2);
        t.propose(3, 4);
        t.propose(3, 6);
        for (int slot = 0; slot < 3; slot++) {
            int x = 2 * (slot + 1);
            for (int how = 0; how < 3; how++) {
                Check.due("NOMINATE", t.statements(3, slot, 0, how), 1 << x);
                Check.due("PREPARE", t.statements(3, slot, 1, how), Scenes.bit(1, x));
                Check.due("COMMIT", t.statements(3, slot, 2, how), Scenes.bit(1, x));
            }
        }
    }
}
