/** Promise 15: offer, and with it how the book is kept. */
public final class Promise15Test {
    public static void main(String[] args) {
        refusesWrongInputs();
        takesTheBestThenTheFirst();
        restsWhatDoesNotMeet();
        takesOutWhoCannotSell();
        takesOutWhoCannotBuy();
        endsWhenTheComerCannotBuy();
        endsWhenTheComerCannotSell();
        endsWithBothInTheBook();
        hasRoomForEight();
        Check.end();
    }

    private static void refusesWrongInputs() {
        TrustLedger t = Scenes.loners();
        t.submit(0, 0, Scenes.OFFER, 3, Scenes.SELL, 9, 1000);
        t.propose(0, 1);
        Check.due("the offer", t.offer(0, 0), 3 + 4 + 16 * 9 + 256 * 1000);
        int[][] wrong = {{-1, 0}, {5, 0}, {0, -1}, {0, 1}, {0, 8}, {1, 0}, {Integer.MAX_VALUE, 0}, {0, Integer.MIN_VALUE}};
        for (int[] w : wrong) {
            Check.due("offer(" + w[0] + ", " + w[1] + ")", t.offer(w[0], w[1]), -1);
        }
        Check.due("a faulty node", new TrustLedger(1).offer(0, 0), -1);
        t = Scenes.loners();
        t.submit(0, 0, Scenes.OFFER, 0, Scenes.BUY, 1, 1);
        t.propose(4, 1);
        Check.due("the least there can be", t.offer(4, 0), 272);
    }

    private static void due(TrustLedger t, int... offers) {
        for (int k = 0; k < offers.length; k++) {
            Check.due("offer(0, " + k + ") of " + offers.length, t.offer(0, k), offers[k]);
        }
        Check.due("offer(0, " + offers.length + ")", t.offer(0, offers.length), -1);
    }

    private static void takesTheBestThenTheFirst() {
        TrustLedger t = Scenes.loners();
        t.submit(0, 0, Scenes.OFFER, 0, Scenes.SELL, 4, 5);
        t.submit(0, 1, Scenes.OFFER, 1, Scenes.SELL, 3, 5);
        t.submit(0, 2, Scenes.OFFER, 2, Scenes.SELL, 3, 5);
        t.submit(1, 0, Scenes.OFFER, 3, Scenes.BUY, 4, 7);
        t.submit(2, 0, Scenes.OFFER, 3, Scenes.BUY, 9, 5);
        t.propose(0, 7);
        due(t, Scenes.offered(0, 1, 4, 5), Scenes.offered(1, 1, 3, 5), Scenes.offered(2, 1, 3, 5));
        t.propose(0, 1);
        due(t, Scenes.offered(0, 1, 4, 5), Scenes.offered(2, 1, 3, 3));
        t.propose(0, 1);
        due(t, Scenes.offered(0, 1, 4, 3));
        Check.due("coins of the buyer", t.balance(0, 3, 0), 98 - 7 * 3 - 3 * 3 - 2 * 4);
    }

    private static void restsWhatDoesNotMeet() {
        TrustLedger t = Scenes.loners();
        t.submit(0, 0, Scenes.OFFER, 0, Scenes.SELL, 5, 2);
        t.submit(0, 1, Scenes.OFFER, 1, Scenes.BUY, 4, 2);
        t.submit(0, 2, Scenes.OFFER, 2, Scenes.SELL, 5, 1);
        t.submit(1, 0, Scenes.OFFER, 3, Scenes.SELL, 4, 3);
        t.submit(1, 1, Scenes.OFFER, 3, Scenes.BUY, 5, 4);
        t.propose(0, 7);
        due(t, Scenes.offered(0, 1, 5, 2), Scenes.offered(1, 0, 4, 2), Scenes.offered(2, 1, 5, 1));
        t.propose(0, 1);
        due(t, Scenes.offered(0, 1, 5, 2), Scenes.offered(2, 1, 5, 1), Scenes.offered(3, 1, 4, 1));
        t.propose(0, 2);
        due(t, Scenes.offered(0, 1, 5, 2), Scenes.offered(2, 1, 5, 1), Scenes.offered(3, 1, 4, 1));
    }

    private static void takesOutWhoCannotSell() {
        TrustLedger t = Scenes.loners();
        t.submit(0, 0, Scenes.OFFER, 0, Scenes.SELL, 2, 20);
        t.submit(0, 1, Scenes.OFFER, 1, Scenes.SELL, 3, 4);
        t.submit(0, 2, Scenes.PAY, 0, Scenes.SHARE, 3, 20);
        t.submit(1, 0, Scenes.OFFER, 2, Scenes.BUY, 3, 5);
        t.propose(0, 7);
        due(t, Scenes.offered(0, 1, 2, 20), Scenes.offered(1, 1, 3, 4));
        t.propose(0, 1);
        due(t, Scenes.offered(2, 0, 3, 1));
    }

    private static void takesOutWhoCannotBuy() {
        TrustLedger t = Scenes.loners();
        t.submit(0, 0, Scenes.OFFER, 0, Scenes.BUY, 9, 2);
        t.submit(0, 1, Scenes.OFFER, 1, Scenes.BUY, 8, 2);
        t.submit(0, 2, Scenes.PAY, 0, Scenes.COIN, 3, 90);
        t.submit(1, 0, Scenes.OFFER, 2, Scenes.SELL, 8, 5);
        t.propose(0, 7);
        Check.due("coins: less than 9", t.balance(0, 0, 0), 8);
        t.propose(0, 1);
        due(t, Scenes.offered(2, 1, 8, 3));
    }

    private static void endsWhenTheComerCannotBuy() {
        TrustLedger t = Scenes.loners();
        t.submit(0, 0, Scenes.OFFER, 0, Scenes.SELL, 5, 5);
        t.submit(0, 1, Scenes.PAY, 1, Scenes.COIN, 2, 94);
        t.submit(0, 2, Scenes.OFFER, 1, Scenes.BUY, 6, 3);
        t.propose(0, 7);
        due(t, Scenes.offered(0, 1, 5, 5), Scenes.offered(1, 0, 6, 3));
        Check.due("coins of the buyer", t.balance(0, 1, 0), 4);
        // The seller has one share: that is enough to stay.
        t = Scenes.loners();
        t.submit(0, 0, Scenes.OFFER, 0, Scenes.SELL, 5, 5);
        t.submit(0, 1, Scenes.PAY, 0, Scenes.SHARE, 3, 19);
        t.submit(0, 2, Scenes.PAY, 1, Scenes.COIN, 2, 95);
        t.submit(1, 0, Scenes.OFFER, 1, Scenes.BUY, 5, 3);
        t.propose(0, 7);
        t.propose(0, 1);
        due(t, Scenes.offered(0, 1, 5, 5), Scenes.offered(1, 0, 5, 3));
    }

    private static void endsWhenTheComerCannotSell() {
        TrustLedger t = Scenes.loners();
        t.submit(0, 0, Scenes.OFFER, 0, Scenes.BUY, 5, 5);
        t.submit(0, 1, Scenes.PAY, 1, Scenes.SHARE, 2, 20);
        t.submit(0, 2, Scenes.OFFER, 1, Scenes.SELL, 5, 3);
        t.propose(0, 7);
        due(t, Scenes.offered(0, 0, 5, 5), Scenes.offered(1, 1, 5, 3));
        // The buyer has exactly the coins for one share: that is enough to stay.
        t = Scenes.loners();
        t.submit(0, 0, Scenes.OFFER, 0, Scenes.BUY, 9, 1);
        t.submit(0, 1, Scenes.PAY, 0, Scenes.COIN, 2, 89);
        t.submit(0, 2, Scenes.PAY, 1, Scenes.SHARE, 2, 20);
        t.submit(1, 0, Scenes.OFFER, 1, Scenes.SELL, 1, 3);
        t.propose(0, 7);
        Check.due("coins of the buyer", t.balance(0, 0, 0), 9);
        t.propose(0, 1);
        due(t, Scenes.offered(0, 0, 9, 1), Scenes.offered(1, 1, 1, 3));
    }

    private static void endsWithBothInTheBook() {
        TrustLedger t = Scenes.loners();
        t.submit(0, 0, Scenes.OFFER, 0, Scenes.SELL, 9, 20);
        t.submit(0, 1, Scenes.OFFER, 1, Scenes.BUY, 9, 20);
        t.propose(0, 3);
        due(t, Scenes.offered(0, 1, 9, 9), Scenes.offered(1, 0, 9, 9));
    }

    private static void hasRoomForEight() {
        TrustLedger t = Scenes.loners();
        for (int i = 0; i < 9; i++) {
            t.submit(i / 3, i % 3, Scenes.OFFER, i % 4, Scenes.BUY, 1 + i % 5, 10 + i);
        }
        for (int slot = 0; slot < 3; slot++) {
            t.propose(0, 7);
        }
        int[] offers = new int[8];
        for (int i = 0; i < 8; i++) {
            offers[i] = Scenes.offered(i % 4, 0, 1 + i % 5, 10 + i);
        }
        due(t, offers);
        Check.due("the ninth has cost its coin", t.balance(0, 0, 0), 97);
    }
}
