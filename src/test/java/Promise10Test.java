/** Promise 10: state. */
public final class Promise10Test {
    public static void main(String[] args) {
        refusesWrongInputs();
        tellsEachOfTheSix();
        isEmptyInTheNextSlot();
        Check.end();
    }

    private static void refusesWrongInputs() {
        TrustLedger t = new TrustLedger(4);
        int[][] wrong = {{-1, 0}, {5, 0}, {2, 0}, {0, -1}, {0, 6}, {Integer.MIN_VALUE, 0}, {0, Integer.MAX_VALUE}};
        for (int[] w : wrong) {
            Check.due("state(" + w[0] + ", " + w[1] + ")", t.state(w[0], w[1]), -1);
        }
    }

    private static void tellsEachOfTheSix() {
        TrustLedger t = Scenes.oneGood();
        t.propose(0, 3);
        t.timeout(0);
        t.timeout(0);
        Scenes.tellZero(t, 3, 1 << 4 | 1 << 2, 0, 0);
        t.timeout(0);
        int[] due = {0, 3, 5, 2, 6, 3};
        for (int what = 0; what < 6; what++) {
            Check.due("state(0, " + what + ")", t.state(0, what), due[what]);
        }
    }

    private static void isEmptyInTheNextSlot() {
        TrustLedger t = Scenes.loners();
        for (int slot = 1; slot <= 3; slot++) {
            t.propose(2, 7);
            Check.due("slot", t.state(2, 0), slot);
            for (int what = 1; what < 6; what++) {
                Check.due("state(2, " + what + ") in slot " + slot, t.state(2, what), 0);
            }
            Check.due("no such state", t.state(2, 6), -1);
        }
        Check.due("the others are where they were", t.state(1, 0), 0);
    }
}
