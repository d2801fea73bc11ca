/**
 * Long runs of mixed calls, right and wrong ones, each answered as the plain model answers it. Each run is played
 * several times on new objects, up to a place of its own, and what is left of the 512 calls then asks for all there is.
 */
public final class ModelRunsTest {
    private static final int RUNS = 800;
    private static final int PARTS = 3;
    private static final int MOST_CALLS = 512;
    private static final int MOST_ACTS = 470;

    private final int run;
    private final int faulty;
    private final TrustLedger real;
    private final PlainModel model;
    private long seed;
    private int calls;
    private static final int[] ENDED = new int[4];

    private ModelRunsTest(int run) {
        this.run = run;
        seed = 1000003L * run + 17;
        faulty = pick(3) == 0 ? 0 : pick(2) == 0 ? 1 << pick(5) : pick(64);
        real = new TrustLedger(faulty);
        model = new PlainModel(faulty);
    }

    public static void main(String[] args) {
        for (int run = 0; run < RUNS && Check.wrong() == 0; run++) {
            for (int part = 1; part <= PARTS; part++) {
                new ModelRunsTest(run).play(part);
            }
        }
        System.out.println("nodes that ended in slot 0 .. 3: " + ENDED[0] + " " + ENDED[1] + " " + ENDED[2] + " " + ENDED[3]);
        Check.due("some nodes end in every slot", ENDED[0] > 50 && ENDED[1] > 50 && ENDED[2] > 50 && ENDED[3] > 50, true);
        Check.end();
    }

    private int pick(int bound) {
        seed = seed * 6364136223846793005L + 1442695040888963407L;
        return (int) ((seed >>> 33) % bound);
    }

    private void play(int part) {
        setTrust();
        for (int i = pick(14); i > 0; i--) {
            submitSome();
        }
        int length = (60 + pick(MOST_ACTS - 60)) * part / PARTS;
        while (calls < length && Check.wrong() == 0) {
            step();
        }
        for (int i = 0; i < 5; i++) {
            compareNode((run + i) % 5);
        }
        for (int v = 0; v < 5; v++) {
            if (model.state(v, 0) >= 0) {
                ENDED[model.state(v, 0)]++;
            }
        }
    }

    private void setTrust() {
        int style = pick(6);
        int team = 1 + pick(31);
        for (int v = 0; v < 5; v++) {
            if (style == 1) {
                trust(v, 3, 31, 0, pick(32));
            } else if (style == 2) {
                trust(v, 1 + pick(3), pick(32) | 1 << v, pick(4), pick(32));
            } else if (style == 3) {
                trust(v, 1, 1 << v, 0, 0);
            } else if (style == 4) {
                trust(v, 1 + pick(Integer.bitCount(team | 1 << v)), team | 1 << v, 0, 0);
            } else if (style == 5) {
                trust(v, pick(8), pick(34) - 1, pick(8) - 1, pick(34) - 1);
            }
        }
    }

    private void step() {
        int choice = pick(40);
        int v = pick(5);
        if (choice < 22) {
            spread(v);
        } else if (choice < 28) {
            propose(v, 1 + pick(7));
        } else if (choice < 31) {
            timeout(v);
        } else if (choice < 34) {
            forgeSome(v);
        } else if (choice < 37) {
            deliver(pick(Math.max(1, model.envelopes())), v);
        } else {
            strange(pick(9));
        }
    }

    /** A node posts, and some of the others get it. */
    private void spread(int v) {
        int slot = Math.max(0, model.state(v, 0)) - (pick(4) == 0 ? 1 : 0);
        int k = post(v, slot);
        int to = pick(3) == 0 ? pick(32) : 31;
        for (int u = 0; u < 5 && k >= 0; u++) {
            if ((to >> u & 1) == 1) {
                deliver(k, u);
            }
        }
    }

    private void forgeSome(int v) {
        int slot = Math.max(0, model.state(pick(5), 0));
        int k = forge(v, slot, sparse(), sparse(), sparse());
        for (int u = 0; u < 5 && k >= 0; u++) {
            if (pick(2) == 0) {
                deliver(k, u);
            }
        }
    }

    private int sparse() {
        int full = pick(1 << 30) ^ pick(1 << 30) << 2;
        return pick(3) == 0 ? full : full & pick(1 << 30) & pick(1 << 30);
    }

    private void submitSome() {
        int kind = pick(4) == 0 ? 0 : 1;
        int amount = pick(3) == 0 ? 1 + pick(1000) : 1 + pick(25);
        submit(pick(3), pick(3), kind, pick(4), pick(2), kind == 0 ? pick(4) : 1 + pick(9), amount);
    }

    private void strange(int choice) {
        if (choice == 0) {
            trust(pick(7) - 1, pick(8), pick(34) - 1, pick(8) - 1, pick(34) - 1);
        } else if (choice == 1) {
            submit(pick(5) - 1, pick(5) - 1, pick(4) - 1, pick(6) - 1, pick(4) - 1, pick(12) - 1, pick(1003) - 1);
        } else if (choice == 2) {
            propose(pick(7) - 1, pick(10) - 1);
        } else if (choice == 3) {
            timeout(pick(7) - 1);
        } else if (choice == 4) {
            post(pick(7) - 1, pick(5) - 1);
        } else if (choice == 5) {
            forge(pick(7) - 1, pick(5) - 1, pick(9), pick(9), pick(9));
        } else if (choice == 6) {
            deliver(pick(124) - 2, pick(7) - 1);
        } else if (choice == 7) {
            submitSome();
        } else {
            askSome();
        }
    }

    private void askSome() {
        int v = pick(7) - 1;
        int a = pick(6) - 1;
        int b = pick(5) - 1;
        int k = pick(10) - 1;
        ask("header(" + v + ")", real.header(v), model.header(v));
        ask("state(" + v + ", " + k + ")", real.state(v, k), model.state(v, k));
        ask("balance(" + v + ", " + a + ", " + b + ")", real.balance(v, a, b), model.balance(v, a, b));
        ask("offer(" + v + ", " + k + ")", real.offer(v, k), model.offer(v, k));
        ask("value(" + v + ", " + a + ")", real.value(v, a), model.value(v, a));
        ask("statements(" + v + ", " + a + ", " + b + ", 1)", real.statements(v, a, b, 1), model.statements(v, a, b, 1));
        ask("envelopes()", real.envelopes(), model.envelopes());
    }

    private void told(String call, long got, long want) {
        calls++;
        Check.due("run " + run + " (faulty " + faulty + "), call " + calls + ": " + call, got, want);
    }

    private void told(String call, boolean got, boolean want) {
        told(call, got ? 1 : 0, want ? 1 : 0);
    }

    private void trust(int v, int t, int m, int i, int g) {
        told("trust(" + v + ", " + t + ", " + m + ", " + i + ", " + g + ")", real.trust(v, t, m, i, g), model.trust(v, t, m, i, g));
    }

    private void submit(int s, int j, int k, int f, int w, int o, int a) {
        told("submit(" + s + ", " + j + ", " + k + ", " + f + ", " + w + ", " + o + ", " + a + ")",
            real.submit(s, j, k, f, w, o, a), model.submit(s, j, k, f, w, o, a));
    }

    private void propose(int v, int x) {
        told("propose(" + v + ", " + x + ")", real.propose(v, x), model.propose(v, x));
    }

    private void timeout(int v) {
        told("timeout(" + v + ")", real.timeout(v), model.timeout(v));
    }

    private int post(int v, int slot) {
        int due = model.post(v, slot);
        told("post(" + v + ", " + slot + ")", real.post(v, slot), due);
        return due;
    }

    private int forge(int v, int slot, int n, int p, int c) {
        int due = model.forge(v, slot, n, p, c);
        told("forge(" + v + ", " + slot + ", " + n + ", " + p + ", " + c + ")", real.forge(v, slot, n, p, c), due);
        return due;
    }

    private void deliver(int k, int v) {
        told("deliver(" + k + ", " + v + ")", real.deliver(k, v), model.deliver(k, v));
    }

    /** An answer after the 512th call is free. */
    private void ask(String call, long got, long want) {
        if (calls < MOST_CALLS) {
            told(call, got, want);
        }
    }

    private void compareNode(int v) {
        ask("header(" + v + ")", real.header(v), model.header(v));
        for (int what = 0; what < 6; what++) {
            ask("state(" + v + ", " + what + ")", real.state(v, what), model.state(v, what));
        }
        for (int i = 0; i < 27; i++) {
            int slot = i / 9;
            int kind = i / 3 % 3;
            ask("statements(" + v + ", " + slot + ", " + kind + ", " + i % 3 + ")",
                real.statements(v, slot, kind, i % 3), model.statements(v, slot, kind, i % 3));
        }
        for (int i = 0; i < 8; i++) {
            ask("balance(" + v + ", " + i / 2 + ", " + i % 2 + ")",
                real.balance(v, i / 2, i % 2), model.balance(v, i / 2, i % 2));
            ask("offer(" + v + ", " + i + ")", real.offer(v, i), model.offer(v, i));
        }
        for (int slot = 0; slot < 3; slot++) {
            ask("value(" + v + ", " + slot + ")", real.value(v, slot), model.value(v, slot));
        }
    }
}
