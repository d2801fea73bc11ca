/** Promise 14: balance, and with it how payments and trades are carried out. */
public final class Promise14Test {
    public static void main(String[] args) {
        refusesWrongInputs();
        paysWhatIsThere();
        paysSharesAndItself();
        tradesAtTheRestingPrice();
        tradesAsMuchAsCoinsReach();
        tradesAsMuchAsSharesReach();
        tradesWithItself();
        lowestTransactionFirst();
        eachNodeHasItsOwn();
        Check.end();
    }

    private static void refusesWrongInputs() {
        TrustLedger t = new TrustLedger(4);
        int[][] wrong = {
            {-1, 0, 0}, {5, 0, 0}, {2, 0, 0}, {0, -1, 0}, {0, 4, 0}, {0, 0, -1}, {0, 0, 2},
            {Integer.MIN_VALUE, 0, 0}, {0, Integer.MAX_VALUE, 0},
        };
        for (int[] w : wrong) {
            Check.due("balance " + java.util.Arrays.toString(w), t.balance(w[0], w[1], w[2]), -1);
        }
    }

    private static void due(TrustLedger t, int[] coins, int[] shares) {
        for (int a = 0; a < 4; a++) {
            Check.due("coins of " + a, t.balance(0, a, Scenes.COIN), coins[a]);
            Check.due("shares of " + a, t.balance(0, a, Scenes.SHARE), shares[a]);
        }
    }

    private static void paysWhatIsThere() {
        TrustLedger t = Scenes.loners();
        t.submit(0, 0, Scenes.PAY, 0, Scenes.COIN, 1, 99);
        t.submit(0, 1, Scenes.PAY, 0, Scenes.SHARE, 2, 5);
        t.submit(0, 2, Scenes.PAY, 1, Scenes.COIN, 2, 199);
        t.propose(0, 7);
        due(t, new int[] {0, 198, 100, 100}, new int[] {20, 20, 20, 20});
        t.submit(1, 0, Scenes.PAY, 1, Scenes.COIN, 2, 1000);
        t.submit(1, 1, Scenes.OFFER, 0, Scenes.SELL, 3, 5);
        t.propose(0, 3);
        due(t, new int[] {0, 197, 100, 100}, new int[] {20, 20, 20, 20});
        Check.due("who has no coin offers nothing", t.offer(0, 0), -1);
    }

    private static void paysSharesAndItself() {
        TrustLedger t = Scenes.loners();
        t.submit(0, 0, Scenes.PAY, 2, Scenes.SHARE, 3, 20);
        t.submit(0, 1, Scenes.PAY, 1, Scenes.SHARE, 0, 21);
        t.submit(0, 2, Scenes.PAY, 3, Scenes.COIN, 3, 50);
        t.propose(0, 7);
        due(t, new int[] {100, 99, 99, 99}, new int[] {20, 20, 0, 40});
    }

    private static void tradesAtTheRestingPrice() {
        TrustLedger t = Scenes.loners();
        t.submit(0, 0, Scenes.OFFER, 0, Scenes.BUY, 7, 4);
        t.submit(0, 1, Scenes.OFFER, 1, Scenes.BUY, 9, 4);
        t.submit(0, 2, Scenes.OFFER, 2, Scenes.BUY, 9, 4);
        t.submit(1, 0, Scenes.OFFER, 3, Scenes.SELL, 5, 10);
        t.propose(0, 7);
        due(t, new int[] {99, 99, 99, 100}, new int[] {20, 20, 20, 20});
        t.propose(0, 1);
        due(t, new int[] {99 - 14, 99 - 36, 99 - 36, 99 + 86}, new int[] {22, 24, 24, 10});
    }

    private static void tradesAsMuchAsCoinsReach() {
        TrustLedger t = Scenes.loners();
        t.submit(0, 0, Scenes.OFFER, 0, Scenes.SELL, 9, 20);
        t.submit(0, 1, Scenes.PAY, 1, Scenes.COIN, 2, 2);
        t.submit(0, 2, Scenes.OFFER, 1, Scenes.BUY, 9, 20);
        t.propose(0, 7);
        due(t, new int[] {99 + 90, 96 - 90, 102, 100}, new int[] {10, 30, 20, 20});
    }

    private static void tradesAsMuchAsSharesReach() {
        TrustLedger t = Scenes.loners();
        t.submit(0, 0, Scenes.OFFER, 0, Scenes.SELL, 1, 30);
        t.submit(0, 1, Scenes.OFFER, 1, Scenes.BUY, 1, 25);
        t.propose(0, 3);
        due(t, new int[] {119, 79, 100, 100}, new int[] {0, 40, 20, 20});
    }

    private static void tradesWithItself() {
        TrustLedger t = Scenes.loners();
        t.submit(0, 0, Scenes.PAY, 0, Scenes.SHARE, 1, 19);
        t.submit(0, 1, Scenes.OFFER, 0, Scenes.BUY, 9, 1000);
        t.submit(0, 2, Scenes.OFFER, 0, Scenes.SELL, 1, 999);
        t.propose(0, 7);
        due(t, new int[] {97, 100, 100, 100}, new int[] {1, 39, 20, 20});
        Check.due("one is left of a thousand", t.offer(0, 0), Scenes.offered(0, 0, 9, 1));
        Check.due("the other is gone", t.offer(0, 1), -1);
    }

    private static void lowestTransactionFirst() {
        TrustLedger t = Scenes.loners();
        t.submit(0, 2, Scenes.PAY, 1, Scenes.COIN, 2, 150);
        t.submit(0, 0, Scenes.PAY, 0, Scenes.COIN, 1, 60);
        t.propose(0, 5);
        due(t, new int[] {39, 9, 250, 100}, new int[] {20, 20, 20, 20});
    }

    private static void eachNodeHasItsOwn() {
        TrustLedger t = Scenes.loners();
        t.submit(0, 0, Scenes.PAY, 0, Scenes.COIN, 1, 60);
        t.submit(0, 1, Scenes.PAY, 0, Scenes.COIN, 1, 10);
        t.propose(0, 1);
        t.propose(1, 2);
        Check.due("node 0", t.balance(0, 1, 0), 160);
        Check.due("node 1", t.balance(1, 1, 0), 110);
        Check.due("node 2", t.balance(2, 1, 0), 100);
    }
}
