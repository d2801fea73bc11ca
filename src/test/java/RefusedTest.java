import java.util.ArrayList;
import java.util.Arrays;
import java.util.List;

/**
 * "A call that is refused changes nothing." At every place of several runs every call of a long list is tried;
 * where it is refused, all that can be seen must be as without it, there and after the rest of the run.
 * No object gets more than the 512 calls that the document speaks of.
 */
public final class RefusedTest {
    private enum Op { TRUST, SUBMIT, PROPOSE, TIMEOUT, POST, FORGE, DELIVER, STATE, STATEMENTS, VALUE, HEADER, BALANCE, OFFER }

    private record Call(Op op, int... args) {
        /** A boolean counts 1 or 0. */
        int on(TrustLedger t) {
            int[] a = args;
            return switch (op) {
                case TRUST -> t.trust(a[0], a[1], a[2], a[3], a[4]) ? 1 : 0;
                case SUBMIT -> t.submit(a[0], a[1], a[2], a[3], a[4], a[5], a[6]) ? 1 : 0;
                case PROPOSE -> t.propose(a[0], a[1]) ? 1 : 0;
                case TIMEOUT -> t.timeout(a[0]) ? 1 : 0;
                case POST -> t.post(a[0], a[1]);
                case FORGE -> t.forge(a[0], a[1], a[2], a[3], a[4]);
                case DELIVER -> t.deliver(a[0], a[1]) ? 1 : 0;
                case STATE -> t.state(a[0], a[1]);
                case STATEMENTS -> t.statements(a[0], a[1], a[2], a[3]);
                case VALUE -> t.value(a[0], a[1]);
                case HEADER -> t.header(a[0]);
                case BALANCE -> t.balance(a[0], a[1], a[2]);
                case OFFER -> t.offer(a[0], a[1]);
            };
        }

        boolean changesNothing(int answer) {
            return switch (op) {
                case TRUST, SUBMIT, PROPOSE, TIMEOUT, DELIVER -> answer == 0;
                case POST, FORGE -> answer == TrustLedger.NONE;
                default -> true;
            };
        }

        String text() {
            return op + Arrays.toString(args);
        }
    }

    private static final int[] STRANGE = {-1, 5, Integer.MIN_VALUE, Integer.MAX_VALUE};
    private static final int[] REFUSED = new int[Op.values().length];

    public static void main(String[] args) {
        List<Call> tried = tried();
        tryAll("a whole life", 0b10000, wholeLife(), tried);
        tryAll("timeouts and forged ones", 0b11110, timeouts(), tried);
        tryAll("a full book and slot 3", 0, fullBook(), tried);
        tryAll("nobody is good", 31, nobodyGood(), tried);
        tryAll("120 envelopes", 1, fullMail(), tried);
        for (Op op : Op.values()) {
            Check.due(op + " was refused or asked often", REFUSED[op.ordinal()] >= 100, true);
        }
        Check.end();
    }

    private static void tryAll(String name, int faulty, List<Call> run, List<Call> tried) {
        for (int place = 0; place <= run.size(); place++) {
            TrustLedger base = new TrustLedger(faulty);
            play(base, run, 0, place);
            int[] seen = seen(base);
            base = new TrustLedger(faulty);
            int[] answers = play(base, run, 0, run.size());
            int[] seenLast = seen(base);
            for (Call call : tried) {
                String where = name + ", place " + place + ", " + call.text();
                TrustLedger t = new TrustLedger(faulty);
                play(t, run, 0, place);
                int answer = call.on(t);
                if (call.changesNothing(answer)) {
                    REFUSED[call.op().ordinal()]++;
                    compare(where + ", seen there", seen(t), seen, 0);
                    t = new TrustLedger(faulty);
                    play(t, run, 0, place);
                    call.on(t);
                    compare(where + ", answers", play(t, run, place, run.size()), answers, place);
                    compare(where + ", seen at the end", seen(t), seenLast, 0);
                }
            }
        }
    }

    private static int[] play(TrustLedger t, List<Call> run, int from, int to) {
        int[] answers = new int[to - from];
        for (int i = from; i < to; i++) {
            answers[i - from] = run.get(i).on(t);
        }
        return answers;
    }

    /** Tells the first place where the two are not the same, if there is one. */
    private static void compare(String name, int[] got, int[] due, int from) {
        Check.due(name + ": first difference", Arrays.mismatch(got, Arrays.copyOfRange(due, from, due.length)), -1);
    }

    /** All that can be asked of an object, in 266 calls. */
    private static int[] seen(TrustLedger t) {
        int[] all = new int[266];
        int n = 0;
        all[n++] = t.envelopes();
        for (int v = 0; v < 5; v++) {
            all[n++] = t.header(v);
            for (int i = 0; i < 8; i++) {
                all[n++] = t.offer(v, i);
                all[n++] = t.balance(v, i / 2, i % 2);
            }
            for (int what = 0; what < 6; what++) {
                all[n++] = t.state(v, what);
            }
            for (int i = 0; i < 27; i++) {
                all[n++] = t.statements(v, i / 9, i / 3 % 3, i % 3);
            }
            for (int slot = 0; slot < 3; slot++) {
                all[n++] = t.value(v, slot);
            }
        }
        return all;
    }

    private static Call call(Op op, int... args) {
        return new Call(op, args);
    }

    private static List<Call> tried() {
        List<Call> all = new ArrayList<>();
        for (int v = -1; v <= 5; v++) {
            all.add(call(Op.TIMEOUT, v));
            all.add(call(Op.HEADER, v));
            all.add(call(Op.TRUST, v, 1, 1, 0, 0));
            for (int x : new int[] {0, 3, 8}) {
                all.add(call(Op.PROPOSE, v, x));
            }
            for (int slot = -1; slot <= 3; slot++) {
                all.add(call(Op.POST, v, slot));
                all.add(call(Op.FORGE, v, slot, -1, -1, -1));
                all.add(call(Op.VALUE, v, slot));
                all.add(call(Op.STATEMENTS, v, slot, slot, slot));
            }
            for (int k : new int[] {-1, 0, 7, 119, 120}) {
                all.add(call(Op.DELIVER, k, v));
                all.add(call(Op.OFFER, v, k));
                all.add(call(Op.STATE, v, k));
                all.add(call(Op.BALANCE, v, k, 0));
            }
        }
        for (int slot = -1; slot <= 3; slot++) {
            for (int j = -1; j <= 3; j++) {
                all.add(call(Op.SUBMIT, slot, j, 0, 0, 0, 1, 50));
            }
        }
        addStrange(all, call(Op.TRUST, 0, 1, 1, 0, 0));
        addStrange(all, call(Op.TRUST, 3, 1, 8, 1, 8));
        all.add(call(Op.TRUST, 0, 0, 1, 0, 0));
        all.add(call(Op.TRUST, 0, 7, 1, 0, 0));
        all.add(call(Op.TRUST, 0, 1, 32, 0, 0));
        all.add(call(Op.TRUST, 0, 1, 1, 6, 1));
        all.add(call(Op.TRUST, 0, 1, 1, 0, 32));
        addStrange(all, call(Op.SUBMIT, 2, 2, 0, 1, 0, 2, 9));
        addStrange(all, call(Op.SUBMIT, 2, 1, 1, 1, 1, 2, 9));
        all.add(call(Op.SUBMIT, 2, 2, 1, 1, 0, 0, 9));
        all.add(call(Op.SUBMIT, 2, 2, 1, 1, 0, 10, 9));
        all.add(call(Op.SUBMIT, 2, 2, 1, 1, 0, 9, 0));
        all.add(call(Op.SUBMIT, 2, 2, 1, 1, 0, 9, 1001));
        addStrange(all, call(Op.PROPOSE, 1, 1));
        addStrange(all, call(Op.TIMEOUT, 1));
        addStrange(all, call(Op.POST, 1, 0));
        addStrange(all, call(Op.FORGE, 4, 0, 2, 1, 1));
        addStrange(all, call(Op.DELIVER, 0, 1));
        addStrange(all, call(Op.STATE, 0, 0));
        addStrange(all, call(Op.STATEMENTS, 0, 0, 0, 0));
        addStrange(all, call(Op.VALUE, 0, 0));
        addStrange(all, call(Op.HEADER, 0));
        addStrange(all, call(Op.BALANCE, 0, 0, 0));
        addStrange(all, call(Op.OFFER, 0, 0));
        return all;
    }

    /** Each argument in its turn becomes strange. */
    private static void addStrange(List<Call> all, Call right) {
        for (int i = 0; i < right.args().length; i++) {
            for (int strange : STRANGE) {
                int[] args = right.args().clone();
                args[i] = strange;
                all.add(new Call(right.op(), args));
            }
        }
    }

    private static void spread(List<Call> run, int number, int v, int slot) {
        run.add(call(Op.POST, v, slot));
        for (int u = 0; u < 4; u++) {
            if (u != v) {
                run.add(call(Op.DELIVER, number, u));
            }
        }
    }

    /** The nodes 0 .. 3 agree on slot 0 and begin slot 1, and node 4 says something in between. */
    private static List<Call> wholeLife() {
        List<Call> run = new ArrayList<>();
        for (int v = 0; v < 4; v++) {
            run.add(call(Op.TRUST, v, 3, 0b01111, 0, 0));
        }
        run.add(call(Op.SUBMIT, 0, 0, 0, 0, 0, 1, 30));
        run.add(call(Op.SUBMIT, 0, 2, 1, 2, 1, 3, 5));
        run.add(call(Op.SUBMIT, 1, 0, 1, 3, 0, 4, 7));
        for (int v = 0; v < 4; v++) {
            run.add(call(Op.PROPOSE, v, 5));
        }
        run.add(call(Op.FORGE, 4, 0, 1 << 7, 1, 1 << 27));
        run.add(call(Op.DELIVER, 0, 2));
        for (int i = 0; i < 16; i++) {
            spread(run, i + 1, i % 4, 0);
        }
        for (int v = 0; v < 4; v++) {
            run.add(call(Op.PROPOSE, v, 1 + v));
        }
        return run;
    }

    private static List<Call> timeouts() {
        List<Call> run = new ArrayList<>();
        run.add(call(Op.TRUST, 0, 3, 31, 2, 0b00110));
        run.add(call(Op.PROPOSE, 0, 6));
        run.add(call(Op.TIMEOUT, 0));
        for (int u = 1; u < 5; u++) {
            run.add(call(Op.FORGE, u, 0, 1 << 6 | 1 << u, 1 << 5, 0));
            run.add(call(Op.DELIVER, u - 1, 0));
        }
        run.add(call(Op.TIMEOUT, 0));
        run.add(call(Op.TIMEOUT, 0));
        run.add(call(Op.TIMEOUT, 0));
        run.add(call(Op.TIMEOUT, 0));
        for (int u = 1; u < 5; u++) {
            run.add(call(Op.FORGE, u, 0, 0, 0, 1 << 26));
            run.add(call(Op.DELIVER, u + 3, 0));
        }
        return run;
    }

    private static List<Call> fullBook() {
        List<Call> run = new ArrayList<>();
        for (int v = 0; v < 3; v++) {
            run.add(call(Op.TRUST, v, 1, 1 << v, 0, 0));
        }
        for (int i = 0; i < 9; i++) {
            run.add(call(Op.SUBMIT, i / 3, i % 3, 1, i % 4, i / 5, i < 5 ? 2 : 4, 10 + i));
        }
        for (int slot = 0; slot < 3; slot++) {
            run.add(call(Op.PROPOSE, 0, 7));
            run.add(call(Op.POST, 0, slot));
            run.add(call(Op.PROPOSE, 1, 3));
        }
        return run;
    }

    private static List<Call> nobodyGood() {
        List<Call> run = new ArrayList<>();
        run.add(call(Op.SUBMIT, 0, 0, 0, 0, 0, 0, 1));
        for (int v = 0; v < 5; v++) {
            run.add(call(Op.TRUST, v, 6, 31, 5, 31));
            run.add(call(Op.FORGE, v, v % 3, 2, 1, 1));
        }
        return run;
    }

    private static List<Call> fullMail() {
        List<Call> run = new ArrayList<>();
        run.add(call(Op.PROPOSE, 1, 2));
        for (int k = 0; k < 120; k++) {
            run.add(k % 3 == 0 ? call(Op.FORGE, 0, 0, 1 << 1 + k % 7, 0, 0) : call(Op.POST, 1 + k % 4, 0));
        }
        for (int v = 1; v < 5; v++) {
            run.add(call(Op.DELIVER, 119, v));
            run.add(call(Op.DELIVER, 0, v));
        }
        return run;
    }
}
