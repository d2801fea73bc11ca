/** Promise 12: value. */
public final class Promise12Test {
    public static void main(String[] args) {
        TrustLedger t = new TrustLedger(4);
        int[][] wrong = {{-1, 0}, {5, 0}, {2, 0}, {0, -1}, {0, 3}, {Integer.MAX_VALUE, 0}, {0, Integer.MIN_VALUE}};
        for (int[] w : wrong) {
            Check.due("value(" + w[0] + ", " + w[1] + ")", t.value(w[0], w[1]), -1);
        }
        t = Scenes.loners();
        int[] values = {7, 1, 4};
        for (int slot = 0; slot < 3; slot++) {
            Check.due("not yet", t.value(4, slot), 0);
            t.propose(4, values[slot]);
        }
        for (int slot = 0; slot < 3; slot++) {
            Check.due("value(4, " + slot + ")", t.value(4, slot), values[slot]);
            Check.due("another node has none", t.value(3, slot), 0);
        }
        for (int b = 0; b < 28; b++) {
            t = Scenes.oneGood();
            Scenes.tellZero(t, 3, 0, 0, 1 << b);
            Check.due("the value of ballot " + b, t.value(0, 0), b % 7 + 1);
        }
        Check.end();
    }
}
