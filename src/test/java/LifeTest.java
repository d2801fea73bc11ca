/** "An object is used for at most 512 calls after it has been made": up to the last of them each answer is due. */
public final class LifeTest {
    private static final int LIFE = 512;

    public static void main(String[] args) {
        theLastCallMayBeATimeout();
        theLastCallMayAskForTheRounds();
        theLastCallMayDeliver();
        theLastCallMayEndASlot();
        laterCallsDoNotThrow();
        objectsKnowNothingOfOneAnother();
        Check.end();
    }

    private static TrustLedger withTimeouts(int count) {
        TrustLedger t = new TrustLedger(0);
        Check.due("propose", t.propose(2, 7), true);
        for (int i = 0; i < count; i++) {
            Check.due("timeout", t.timeout(2), true);
        }
        return t;
    }

    private static void theLastCallMayBeATimeout() {
        Check.due("call 512", withTimeouts(LIFE - 2).timeout(2), true);
    }

    private static void theLastCallMayAskForTheRounds() {
        Check.due("call 512", withTimeouts(LIFE - 2).state(2, 1), LIFE - 1);
    }

    private static void theLastCallMayDeliver() {
        TrustLedger t = new TrustLedger(1);
        for (int k = 0; k < 120; k++) {
            Check.due("forge", t.forge(0, 0, 1 << 1 + k % 7, 1 << k % 28, 0), k);
        }
        for (int i = 120; i < LIFE; i++) {
            Check.due("deliver, call " + (i + 1), t.deliver(i % 120, 1 + i % 4), true);
        }
    }

    private static void theLastCallMayEndASlot() {
        TrustLedger t = Scenes.loners();
        for (int i = 5; i < LIFE - 2; i++) {
            Check.due("header", t.header(0), 0);
        }
        Check.due("call 511", t.propose(0, 6), true);
        Check.due("call 512", t.header(0), 6);
    }

    /** What they answer is free; that none of them throws is a rule of the language. */
    private static void laterCallsDoNotThrow() {
        TrustLedger t = withTimeouts(LIFE);
        for (int i = 0; i < 2000; i++) {
            int v = i % 7 - 1;
            t.trust(v, i % 8, i % 33, i % 7, i % 33);
            t.submit(i % 4, i % 4, i % 3, i % 5, i % 3, i % 11, i);
            t.propose(v, i % 9);
            t.timeout(v);
            t.post(v, i % 4);
            t.forge(v, i % 4, i, i, i);
            t.deliver(i % 130 - 1, v);
            t.state(v, i % 8 - 1);
            t.statements(v, i % 4, i % 4, i % 4);
            t.value(v, i % 4);
            t.header(v);
            t.balance(v, i % 5, i % 3);
            t.offer(v, i % 10 - 1);
            t.envelopes();
        }
    }

    private static void objectsKnowNothingOfOneAnother() {
        TrustLedger busy = Scenes.loners();
        TrustLedger idle = new TrustLedger(0);
        busy.submit(0, 0, Scenes.PAY, 0, Scenes.COIN, 1, 50);
        busy.submit(0, 1, Scenes.OFFER, 0, Scenes.SELL, 3, 5);
        busy.propose(0, 3);
        busy.post(0, 0);
        Check.due("envelopes", idle.envelopes(), 0);
        Check.due("slot", idle.state(0, 0), 0);
        Check.due("coins", idle.balance(0, 1, 0), 100);
        Check.due("offer", idle.offer(0, 0), -1);
        Check.due("trust can be set", idle.trust(0, 4, 31, 0, 0), true);
        Check.due("a transaction can be set", idle.submit(0, 0, 0, 0, 0, 0, 1), true);
        idle.propose(0, 1);
        Check.due("four of five are still trusted", idle.statements(0, 0, 0, 1), 0);
    }
}
