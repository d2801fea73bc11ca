/** The boundary cases in the terms of the ledger: coins and shares that are just enough or just not, and the book's room. */
public final class TermsLedgerTest {
    public static void main(String[] args) {
        whoHasNoCoinDoesNothing();
        theLastCoinIsEnough();
        paysJustWhatIsThere();
        paysNothingOfTooMuch();
        paysItself();
        aTransactionThatIsNotSetCostsNothing();
        theLowestIsCarriedOutFirst();
        onlyThoseOfTheValueAreCarriedOut();
        buysUpToItsPrice();
        sellsDownToItsPrice();
        buysFromTheCheapestAndTheFirst();
        sellsToTheDearestAndTheFirst();
        tradesTheAmountOfTheComer();
        tradesTheAmountOfTheResting();
        tradesTheSharesOfTheSeller();
        tradesForTheCoinsOfTheBuyer();
        aRestingSellerWithoutShareIsTakenOut();
        aRestingBuyerWithoutCoinsIsTakenOut();
        aRestingBuyerWithJustTheCoinsStays();
        endsWithAComerWithoutCoins();
        endsWithAComerWithoutShares();
        takesOutThoughTheComerCannotEither();
        takesOutAfterTheLastShareWasSold();
        takesOutAfterTheLastCoinsWereSpent();
        tradesWithItself();
        ofTheSameSideNothingIsTraded();
        nothingRestsWithoutAnAmount();
        theBookKeepsItsOrder();
        theNinthOfferFindsNoRoom();
        theNinthOfferTradesThoughItFindsNoRoom();
        theNinthOfferRestsWhereOneWasTakenOut();
        Check.end();
    }

    private static int[] pay(int from, int to, int coins) {
        return new int[] {Scenes.PAY, from, Scenes.COIN, to, coins};
    }

    private static int[] give(int from, int to, int shares) {
        return new int[] {Scenes.PAY, from, Scenes.SHARE, to, shares};
    }

    private static int[] buy(int from, int price, int amount) {
        return new int[] {Scenes.OFFER, from, Scenes.BUY, price, amount};
    }

    private static int[] sell(int from, int price, int amount) {
        return new int[] {Scenes.OFFER, from, Scenes.SELL, price, amount};
    }

    /** Node 0 carries them all out in their order, three in a slot. */
    private static TrustLedger ledger(int[]... transactions) {
        TrustLedger t = Scenes.loners();
        for (int i = 0; i < transactions.length; i++) {
            int[] s = transactions[i];
            Check.due("submit", t.submit(i / 3, i % 3, s[0], s[1], s[2], s[3], s[4]), true);
        }
        for (int i = 0; i < transactions.length; i += 3) {
            Check.due("propose", t.propose(0, 7), true);
        }
        return t;
    }

    private static void coins(TrustLedger t, int... due) {
        for (int a = 0; a < 4; a++) {
            Check.due("coins of " + a, t.balance(0, a, Scenes.COIN), due[a]);
        }
    }

    private static void shares(TrustLedger t, int... due) {
        for (int a = 0; a < 4; a++) {
            Check.due("shares of " + a, t.balance(0, a, Scenes.SHARE), due[a]);
        }
    }

    private static void book(TrustLedger t, int... due) {
        for (int k = 0; k < 8; k++) {
            Check.due("offer " + k + " of " + due.length, t.offer(0, k), k < due.length ? due[k] : -1);
        }
    }

    private static int bid(int account, int price, int amount) {
        return Scenes.offered(account, Scenes.BUY, price, amount);
    }

    private static int ask(int account, int price, int amount) {
        return Scenes.offered(account, Scenes.SELL, price, amount);
    }

    /** "if a has no coin, nothing happens". */
    private static void whoHasNoCoinDoesNothing() {
        TrustLedger t = ledger(pay(0, 1, 99), give(0, 1, 1), pay(0, 1, 1), sell(0, 1, 5), buy(0, 9, 5));
        coins(t, 0, 199, 100, 100);
        shares(t, 20, 20, 20, 20);
        book(t);
        t = ledger(buy(1, 5, 3), pay(0, 1, 99), sell(0, 5, 3), pay(1, 0, 2), sell(0, 5, 3));
        coins(t, 2 - 1 + 15, 198 - 3 - 15, 100, 100);
        shares(t, 17, 23, 20, 20);
    }

    /** "otherwise one coin of a is gone. Then, PAY": also with the last coin. */
    private static void theLastCoinIsEnough() {
        TrustLedger t = ledger(pay(0, 1, 98), give(0, 1, 2));
        coins(t, 0, 198, 100, 100);
        shares(t, 18, 22, 20, 20);
        t = ledger(pay(0, 1, 98), pay(0, 1, 1));
        coins(t, 0, 198, 100, 100);
        t = ledger(buy(1, 4, 2), pay(0, 2, 98), sell(0, 4, 2));
        coins(t, 8, 91, 198, 100);
        shares(t, 18, 22, 20, 20);
        t = ledger(pay(0, 1, 98), buy(0, 9, 2));
        coins(t, 0, 198, 100, 100);
        book(t, bid(0, 9, 2));
    }

    /** "amount of coins or shares go from a to account b, if a has so many". */
    private static void paysJustWhatIsThere() {
        TrustLedger t = ledger(pay(2, 3, 99));
        coins(t, 100, 100, 0, 199);
        t = ledger(give(2, 3, 20));
        coins(t, 100, 100, 99, 100);
        shares(t, 20, 20, 0, 40);
    }

    private static void paysNothingOfTooMuch() {
        TrustLedger t = ledger(pay(2, 3, 100));
        coins(t, 100, 100, 99, 100);
        t = ledger(give(2, 3, 21));
        coins(t, 100, 100, 99, 100);
        shares(t, 20, 20, 20, 20);
        t = ledger(pay(2, 3, 1000), give(2, 3, 1000));
        coins(t, 100, 100, 98, 100);
        shares(t, 20, 20, 20, 20);
    }

    /** "(from itself, too)". */
    private static void paysItself() {
        for (int a = 0; a < 4; a++) {
            TrustLedger t = ledger(pay(a, a, 99), give(a, a, 20));
            for (int other = 0; other < 4; other++) {
                Check.due("coins", t.balance(0, other, 0), other == a ? 98 : 100);
                Check.due("shares", t.balance(0, other, 1), 20);
            }
        }
    }

    /** "A transaction that is not set does nothing at all." */
    private static void aTransactionThatIsNotSetCostsNothing() {
        TrustLedger t = Scenes.loners();
        t.submit(1, 1, Scenes.PAY, 3, Scenes.COIN, 2, 10);
        for (int slot = 0; slot < 3; slot++) {
            t.propose(0, 7);
        }
        coins(t, 100, 100, 110, 89);
        shares(t, 20, 20, 20, 20);
        book(t);
    }

    /** "the slot's transactions in x are carried out in v's ledger (the lowest first)". */
    private static void theLowestIsCarriedOutFirst() {
        TrustLedger t = ledger(pay(0, 1, 99), pay(1, 2, 198), pay(2, 3, 297));
        coins(t, 0, 0, 0, 397);
        t = ledger(pay(2, 3, 297), pay(1, 2, 198), pay(0, 1, 99));
        coins(t, 0, 198, 99, 100);
    }

    private static void onlyThoseOfTheValueAreCarriedOut() {
        for (int x = 1; x <= 7; x++) {
            TrustLedger t = Scenes.loners();
            for (int j = 0; j < 3; j++) {
                t.submit(0, j, Scenes.PAY, j, Scenes.COIN, 3, 1 + 10 * j);
            }
            t.propose(0, x);
            int got = 0;
            for (int j = 0; j < 3; j++) {
                boolean in = (x >> j & 1) == 1;
                got += in ? 1 + 10 * j : 0;
                Check.due("value " + x + ", account " + j, t.balance(0, j, 0), in ? 98 - 10 * j : 100);
            }
            Check.due("value " + x + ", account 3", t.balance(0, 3, 0), 100 + got);
        }
    }

    /** "or its price is above that of a, if a buys": not when it is the same. */
    private static void buysUpToItsPrice() {
        TrustLedger t = ledger(sell(0, 5, 2), buy(1, 4, 2));
        book(t, ask(0, 5, 2), bid(1, 4, 2));
        coins(t, 99, 99, 100, 100);
        t = ledger(sell(0, 5, 2), buy(1, 5, 2));
        book(t);
        coins(t, 109, 89, 100, 100);
        t = ledger(sell(0, 5, 2), buy(1, 6, 2));
        book(t);
        coins(t, 109, 89, 100, 100);
    }

    /** "or below, if a sells": not when it is the same. */
    private static void sellsDownToItsPrice() {
        TrustLedger t = ledger(buy(0, 5, 2), sell(1, 6, 2));
        book(t, bid(0, 5, 2), ask(1, 6, 2));
        coins(t, 99, 99, 100, 100);
        t = ledger(buy(0, 5, 2), sell(1, 5, 2));
        book(t);
        coins(t, 89, 109, 100, 100);
        t = ledger(buy(0, 5, 2), sell(1, 4, 2));
        book(t);
        coins(t, 89, 109, 100, 100);
    }

    /** "that with the least price, if a buys, ... of equal ones the first". */
    private static void buysFromTheCheapestAndTheFirst() {
        TrustLedger t = ledger(sell(0, 3, 1), sell(1, 2, 1), sell(2, 2, 1), buy(3, 9, 1));
        book(t, ask(0, 3, 1), ask(2, 2, 1));
        t = ledger(sell(0, 3, 1), sell(1, 2, 1), sell(2, 2, 1), buy(3, 9, 3));
        book(t);
        coins(t, 102, 101, 101, 99 - 7);
    }

    /** "or the greatest, if a sells, of equal ones the first". */
    private static void sellsToTheDearestAndTheFirst() {
        TrustLedger t = ledger(buy(0, 3, 1), buy(1, 4, 1), buy(2, 4, 1), sell(3, 1, 1));
        book(t, bid(0, 3, 1), bid(2, 4, 1));
        t = ledger(buy(0, 3, 1), buy(1, 4, 1), buy(2, 4, 1), sell(3, 1, 3));
        book(t);
        coins(t, 96, 95, 95, 99 + 11);
    }

    /** "as many as the least of: both amounts, the shares that the seller has, and the coins of the buyer / p". */
    private static void tradesTheAmountOfTheComer() {
        TrustLedger t = ledger(sell(0, 2, 7), buy(1, 2, 6));
        book(t, ask(0, 2, 1));
        shares(t, 14, 26, 20, 20);
        coins(t, 99 + 12, 99 - 12, 100, 100);
    }

    private static void tradesTheAmountOfTheResting() {
        TrustLedger t = ledger(sell(0, 2, 6), buy(1, 2, 7));
        book(t, bid(1, 2, 1));
        shares(t, 14, 26, 20, 20);
        coins(t, 99 + 12, 99 - 12, 100, 100);
    }

    private static void tradesTheSharesOfTheSeller() {
        TrustLedger t = ledger(buy(1, 2, 21), sell(0, 2, 21));
        book(t, bid(1, 2, 1), ask(0, 2, 1));
        shares(t, 0, 40, 20, 20);
        coins(t, 99 + 40, 99 - 40, 100, 100);
        t = ledger(buy(1, 2, 20), sell(0, 2, 20));
        book(t);
        shares(t, 0, 40, 20, 20);
    }

    /** 99 coins are 12 times 8 and 3 more, and 11 times 9 just so. */
    private static void tradesForTheCoinsOfTheBuyer() {
        TrustLedger t = ledger(sell(0, 8, 13), buy(1, 8, 13));
        book(t, ask(0, 8, 1), bid(1, 8, 1));
        coins(t, 99 + 96, 3, 100, 100);
        shares(t, 8, 32, 20, 20);
        t = ledger(sell(0, 9, 11), buy(1, 9, 11));
        book(t);
        coins(t, 198, 0, 100, 100);
    }

    /** "is taken out of the book when its owner has no share (it sells)": with one share it is served. */
    private static void aRestingSellerWithoutShareIsTakenOut() {
        TrustLedger t = ledger(sell(0, 2, 5), sell(1, 3, 5), give(0, 3, 20), buy(2, 3, 2));
        book(t, ask(1, 3, 3));
        shares(t, 0, 18, 22, 40);
        t = ledger(sell(0, 2, 5), sell(1, 3, 5), give(0, 3, 19), buy(2, 3, 2));
        book(t, ask(1, 3, 4));
        shares(t, 0, 19, 22, 39);
        t = ledger(sell(0, 2, 5), give(0, 3, 20), buy(2, 3, 2));
        book(t, bid(2, 3, 2));
    }

    /** "or less than p coins (it buys)". */
    private static void aRestingBuyerWithoutCoinsIsTakenOut() {
        TrustLedger t = ledger(buy(0, 9, 2), buy(1, 8, 2), pay(0, 3, 90), sell(2, 8, 3));
        coins(t, 8, 99 - 16, 99 + 16, 190);
        book(t, ask(2, 8, 1));
        t = ledger(buy(0, 1, 2), pay(0, 3, 98), sell(2, 1, 3));
        coins(t, 0, 100, 99, 198);
        book(t, ask(2, 1, 3));
    }

    private static void aRestingBuyerWithJustTheCoinsStays() {
        TrustLedger t = ledger(buy(0, 9, 1), pay(0, 3, 89), give(1, 2, 20), sell(1, 9, 1));
        coins(t, 9, 98, 100, 189);
        book(t, bid(0, 9, 1), ask(1, 9, 1));
        t = ledger(buy(0, 9, 1), pay(0, 3, 89), sell(1, 9, 1));
        coins(t, 0, 108, 100, 189);
        book(t);
    }

    /** "otherwise this ends": the comer has not the coins for one share, and the resting seller stays. */
    private static void endsWithAComerWithoutCoins() {
        TrustLedger t = ledger(sell(0, 5, 1), sell(1, 6, 1), pay(2, 3, 94), buy(2, 9, 2));
        coins(t, 99, 99, 4, 194);
        book(t, ask(0, 5, 1), ask(1, 6, 1), bid(2, 9, 2));
        t = ledger(sell(0, 5, 1), pay(2, 3, 93), buy(2, 9, 2));
        coins(t, 104, 100, 0, 193);
        book(t, bid(2, 9, 1));
    }

    private static void endsWithAComerWithoutShares() {
        TrustLedger t = ledger(buy(0, 5, 1), buy(1, 6, 1), give(2, 3, 20), sell(2, 1, 2));
        book(t, bid(0, 5, 1), bid(1, 6, 1), ask(2, 1, 2));
        t = ledger(buy(0, 5, 1), buy(1, 6, 1), give(2, 3, 19), sell(2, 1, 2));
        book(t, bid(0, 5, 1), ask(2, 1, 1));
    }

    private static void takesOutThoughTheComerCannotEither() {
        TrustLedger t = ledger(sell(0, 5, 1), give(0, 3, 20), pay(2, 3, 98), sell(1, 7, 1), buy(2, 9, 2));
        coins(t, 98, 99, 0, 198);
        book(t, ask(1, 7, 1), bid(2, 9, 2));
        t = ledger(buy(0, 5, 1), pay(0, 3, 95), give(2, 3, 20), buy(1, 4, 1), sell(2, 1, 2));
        coins(t, 3, 99, 98, 195);
        book(t, bid(1, 4, 1), ask(2, 1, 2));
    }

    private static void takesOutAfterTheLastShareWasSold() {
        TrustLedger t = ledger(sell(0, 1, 30), sell(1, 2, 5), buy(2, 3, 23));
        shares(t, 0, 17, 43, 20);
        coins(t, 119, 105, 99 - 26, 100);
        book(t, ask(1, 2, 2));
        t = ledger(sell(0, 1, 30), buy(2, 3, 20));
        book(t, ask(0, 1, 10));
    }

    private static void takesOutAfterTheLastCoinsWereSpent() {
        TrustLedger t = ledger(buy(0, 9, 12), buy(1, 2, 5), sell(2, 1, 13));
        coins(t, 0, 95, 99 + 99 + 4, 100);
        book(t, bid(1, 2, 3));
        t = ledger(buy(0, 9, 12), sell(2, 1, 11));
        coins(t, 0, 100, 99 + 99, 100);
        book(t, bid(0, 9, 1));
    }

    /** Buyer and seller are the same account: only the amounts fall, by what it has. */
    private static void tradesWithItself() {
        TrustLedger t = ledger(sell(0, 3, 5), buy(0, 4, 2));
        coins(t, 98, 100, 100, 100);
        shares(t, 20, 20, 20, 20);
        book(t, ask(0, 3, 3));
        t = ledger(sell(0, 3, 5), give(0, 1, 20), buy(0, 4, 2));
        book(t, bid(0, 4, 2));
        t = ledger(sell(0, 1, 1000), give(0, 1, 19), buy(0, 1, 1000));
        coins(t, 97, 100, 100, 100);
        shares(t, 1, 39, 20, 20);
        book(t);
    }

    private static void ofTheSameSideNothingIsTraded() {
        TrustLedger t = ledger(sell(0, 3, 5), sell(1, 3, 5), buy(2, 2, 5), buy(3, 2, 5));
        book(t, ask(0, 3, 5), ask(1, 3, 5), bid(2, 2, 5), bid(3, 2, 5));
        shares(t, 20, 20, 20, 20);
    }

    /** "A resting offer without an amount is taken out. What is left of the amount then comes to rest". */
    private static void nothingRestsWithoutAnAmount() {
        TrustLedger t = ledger(sell(0, 3, 5), buy(1, 3, 5));
        book(t);
        t = ledger(sell(0, 3, 5), buy(1, 3, 4));
        book(t, ask(0, 3, 1));
        t = ledger(sell(0, 3, 4), buy(1, 3, 5));
        book(t, bid(1, 3, 1));
    }

    /** "in the order in which they came to rest": those behind one that is taken out move up. */
    private static void theBookKeepsItsOrder() {
        for (int best = 0; best < 5; best++) {
            int[][] all = new int[6][];
            int[] left = new int[4];
            for (int i = 0; i < 5; i++) {
                int price = i == best ? 1 : 2;
                all[i] = sell(i % 4, price, 1 + i);
                if (i != best) {
                    left[i > best ? i - 1 : i] = ask(i % 4, price, 1 + i);
                }
            }
            all[5] = buy(3, 1, 1 + best);
            book(ledger(all), left);
        }
    }

    /** Eight offers of account i % 4 to sell at 5, and a ninth transaction. */
    private static TrustLedger eightAnd(int[] ninth) {
        int[][] all = new int[9][];
        for (int i = 0; i < 8; i++) {
            all[i] = sell(i % 4, 5, 2 + i);
        }
        all[8] = ninth;
        return ledger(all);
    }

    private static int[] eight(int dropped) {
        int[] offers = new int[8 - dropped];
        for (int i = dropped; i < 8; i++) {
            offers[i - dropped] = ask(i % 4, 5, 2 + i);
        }
        return offers;
    }

    /** "at most 8 offers": "What is left of the amount then comes to rest ..., if it has room". */
    private static void theNinthOfferFindsNoRoom() {
        TrustLedger t = eightAnd(sell(0, 6, 1));
        book(t, eight(0));
        Check.due("it costs a coin", t.balance(0, 0, 0), 97);
        t = eightAnd(buy(0, 4, 1));
        book(t, eight(0));
        Check.due("it costs a coin", t.balance(0, 0, 0), 97);
    }

    private static void theNinthOfferTradesThoughItFindsNoRoom() {
        TrustLedger t = eightAnd(buy(3, 5, 1));
        int[] due = eight(0);
        due[0] = ask(0, 5, 1);
        book(t, due);
        // Account 1 buys ten; then its coins are not enough for one more, and what is left finds no room.
        int[][] all = new int[9][];
        for (int i = 0; i < 8; i++) {
            all[i] = sell(i % 4, 9, 30);
        }
        all[8] = buy(1, 9, 30);
        t = ledger(all);
        coins(t, 98 + 90, 97 - 90, 98, 98);
        int[] left = new int[8];
        for (int i = 0; i < 8; i++) {
            left[i] = ask(i % 4, 9, i == 0 ? 20 : 30);
        }
        book(t, left);
    }

    private static void theNinthOfferRestsWhereOneWasTakenOut() {
        TrustLedger t = eightAnd(buy(3, 5, 2));
        book(t, eight(1));
        int[][] all = new int[9][];
        for (int i = 0; i < 8; i++) {
            all[i] = i == 0 ? sell(0, 1, 2) : sell(1 + i % 3, 5, 2 + i);
        }
        all[8] = buy(3, 1, 3);
        t = ledger(all);
        int[] due = new int[8];
        for (int i = 1; i < 8; i++) {
            due[i - 1] = ask(1 + i % 3, 5, 2 + i);
        }
        due[7] = bid(3, 1, 1);
        book(t, due);
    }
}
