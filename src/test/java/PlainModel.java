import java.util.ArrayList;
import java.util.List;

/**
 * The document once more, in its plainest form: each statement is a boolean of its own, and a quorum
 * is looked for among all 32 sets of nodes. It shares no code with TrustLedger, so that the two can be compared.
 */
final class PlainModel {
    private static final int NOMINATE = 0;
    private static final int PREPARE = 1;
    private static final int COMMIT = 2;
    private static final int[] SIZE = {8, 28, 28};

    private static final class Person {
        final boolean[][][] voted = new boolean[3][3][28];
        final boolean[][][] confirmed = new boolean[3][3][28];
        // Of each node u (itself too): what it has backed and accepted, by slot and kind.
        final boolean[][][][] backed = new boolean[5][3][3][28];
        final boolean[][][][] accepted = new boolean[5][3][3][28];
        final int[] outcome = new int[3];
        int slot;
        int proposal;
        int round;
        int counter;
        final boolean[] leader = new boolean[5];
        int header;
        final int[][] has = {{100, 100, 100, 100}, {20, 20, 20, 20}};
        final List<int[]> book = new ArrayList<>();
    }

    private record Letter(int sender, int slot, boolean[][] backed, boolean[][] accepted) {
    }

    private final boolean[] faulty = new boolean[5];
    private final int[][] trust = new int[5][];
    private final Person[] people = new Person[5];
    private final int[][][] transactions = new int[3][3][];
    private final List<Letter> letters = new ArrayList<>();
    private boolean frozen;

    PlainModel(int faultySet) {
        for (int v = 0; v < 5; v++) {
            faulty[v] = (faultySet & (1 << v)) != 0;
            trust[v] = new int[] {4, 31, 0, 0};
            people[v] = new Person();
        }
    }

    private boolean good(int v) {
        return v >= 0 && v <= 4 && !faulty[v];
    }

    private static int count(int set) {
        int n = 0;
        for (int u = 0; u < 5; u++) {
            n += (set >> u) & 1;
        }
        return n;
    }

    private boolean satisfies(int set, int v) {
        int[] t = trust[v];
        int n = count(set & t[1]);
        if (t[2] > 0) {
            n += count(set & t[3]) >= t[2] ? 1 : 0;
        }
        return n >= t[0];
    }

    private boolean quorumFor(int set, int v) {
        for (int u = 0; u < 32; u++) {
            boolean inside = (u & set) == u && (u >> v & 1) == 1;
            boolean quorum = true;
            for (int w = 0; w < 5; w++) {
                if ((u >> w & 1) == 1 && !satisfies(u, w)) {
                    quorum = false;
                }
            }
            if (inside && quorum) {
                return true;
            }
        }
        return false;
    }

    private static int who(boolean[][][][] of, int slot, int kind, int i) {
        int set = 0;
        for (int u = 0; u < 5; u++) {
            if (of[u][slot][kind][i]) {
                set += 1 << u;
            }
        }
        return set;
    }

    private static boolean aborts(int b, int c) {
        return c < b && c % 7 != b % 7;
    }

    private boolean mayAccept(int v, int kind, int i) {
        Person p = people[v];
        for (int c = 0; c < 28; c++) {
            if (kind == PREPARE && p.accepted[v][p.slot][COMMIT][c] && aborts(i, c)) {
                return false;
            }
            if (kind == COMMIT && p.accepted[v][p.slot][PREPARE][c] && aborts(c, i)) {
                return false;
            }
        }
        int accepters = who(p.accepted, p.slot, kind, i);
        return quorumFor(who(p.backed, p.slot, kind, i), v) || !satisfies(31 - accepters, v);
    }

    private boolean mayConfirm(int v, int kind, int i) {
        Person p = people[v];
        return quorumFor(who(p.accepted, p.slot, kind, i), v);
    }

    private boolean vote(int v, int kind, int i) {
        Person p = people[v];
        boolean fresh = !p.voted[p.slot][kind][i];
        p.voted[p.slot][kind][i] = true;
        p.backed[v][p.slot][kind][i] = true;
        return fresh;
    }

    private boolean accept(int v, int kind, int i) {
        Person p = people[v];
        boolean fresh = !p.accepted[v][p.slot][kind][i];
        p.accepted[v][p.slot][kind][i] = true;
        p.backed[v][p.slot][kind][i] = true;
        return fresh;
    }

    private boolean confirm(int v, int kind, int i) {
        Person p = people[v];
        boolean fresh = !p.confirmed[p.slot][kind][i];
        p.confirmed[p.slot][kind][i] = true;
        return fresh;
    }

    private int composite(int v) {
        Person p = people[v];
        int union = 0;
        for (int x = 1; x < 8; x++) {
            union |= p.confirmed[p.slot][NOMINATE][x] ? x : 0;
        }
        return union;
    }

    private int valueToPrepare(int v) {
        Person p = people[v];
        int found = composite(v);
        for (int b = 0; b < 28; b++) {
            found = p.confirmed[p.slot][PREPARE][b] ? b % 7 + 1 : found;
        }
        return found;
    }

    private void stir(int v) {
        Person p = people[v];
        int slot = p.slot;
        boolean changed = true;
        while (changed && p.slot == slot) {
            changed = rulesAtoC(v);
            if (p.counter == 0 && composite(v) != 0) {
                p.counter = 1;
                vote(v, PREPARE, valueToPrepare(v) - 1);
                changed = true;
            }
            for (int b = 0; b < 28; b++) {
                changed |= mayAccept(v, PREPARE, b) && accept(v, PREPARE, b);
            }
            for (int b = 0; b < 28; b++) {
                changed |= mayConfirm(v, PREPARE, b) && confirm(v, PREPARE, b);
            }
            changed |= ruleG(v);
            for (int b = 0; b < 28 && p.slot == slot; b++) {
                changed |= mayAccept(v, COMMIT, b) && accept(v, COMMIT, b);
                if (mayConfirm(v, COMMIT, b)) {
                    confirm(v, COMMIT, b);
                    externalize(v, b % 7 + 1);
                }
            }
        }
    }

    private boolean rulesAtoC(int v) {
        Person p = people[v];
        boolean none = true;
        for (int x = 1; x < 8; x++) {
            none &= !p.confirmed[p.slot][NOMINATE][x];
        }
        boolean changed = false;
        for (int x = 1; x < 8 && none; x++) {
            boolean led = p.leader[v] && p.proposal == x;
            for (int u = 0; u < 5; u++) {
                led |= p.leader[u] && p.backed[u][p.slot][NOMINATE][x];
            }
            changed |= led && vote(v, NOMINATE, x);
        }
        for (int x = 1; x < 8; x++) {
            changed |= mayAccept(v, NOMINATE, x) && accept(v, NOMINATE, x);
        }
        for (int x = 1; x < 8; x++) {
            changed |= mayConfirm(v, NOMINATE, x) && confirm(v, NOMINATE, x);
        }
        return changed;
    }

    private boolean ruleG(int v) {
        Person p = people[v];
        boolean changed = false;
        for (int b = 0; b < 28; b++) {
            boolean free = p.confirmed[p.slot][PREPARE][b];
            for (int c = 0; c < 28; c++) {
                boolean stands = p.voted[p.slot][PREPARE][c] || p.accepted[v][p.slot][PREPARE][c];
                free &= !(stands && aborts(c, b));
            }
            changed |= free && vote(v, COMMIT, b);
        }
        return changed;
    }

    private void externalize(int v, int x) {
        Person p = people[v];
        p.outcome[p.slot] = x;
        for (int j = 0; j < 3; j++) {
            if ((x >> j & 1) == 1 && transactions[p.slot][j] != null) {
                carryOut(p, transactions[p.slot][j]);
            }
        }
        p.header = 31 * (31 * p.header + p.slot) + x;
        p.slot++;
        p.proposal = 0;
        p.round = 0;
        p.counter = 0;
        for (int u = 0; u < 5; u++) {
            p.leader[u] = false;
        }
    }

    private static void carryOut(Person p, int[] t) {
        int a = t[1];
        if (p.has[0][a] == 0) {
            return;
        }
        p.has[0][a] -= 1;
        if (t[0] == 0) {
            if (p.has[t[2]][a] >= t[4]) {
                p.has[t[2]][a] -= t[4];
                p.has[t[2]][t[3]] += t[4];
            }
            return;
        }
        int left = trade(p, a, t[2] == 0, t[3], t[4]);
        if (left > 0 && p.book.size() < 8) {
            p.book.add(new int[] {a, t[2], t[3], left});
        }
    }

    /** Trades share by share's worth of steps; answers what is left of the amount. */
    private static int trade(Person p, int a, boolean buys, int limit, int amount) {
        int left = amount;
        while (left > 0) {
            int[] best = null;
            for (int[] o : p.book) {
                if ((o[1] == 1) == buys && (best == null || (buys ? o[2] < best[2] : o[2] > best[2]))) {
                    best = o;
                }
            }
            if (best == null || (buys ? best[2] > limit : best[2] < limit)) {
                return left;
            }
            int price = best[2];
            int seller = buys ? best[0] : a;
            int buyer = buys ? a : best[0];
            int n = Math.min(Math.min(left, best[3]), Math.min(p.has[1][seller], p.has[0][buyer] / price));
            if (n == 0) {
                boolean broke = buys ? p.has[1][best[0]] == 0 : p.has[0][best[0]] < price;
                if (!broke) {
                    return left;
                }
                p.book.remove(best);
                continue;
            }
            left -= n;
            best[3] -= n;
            p.has[1][seller] -= n;
            p.has[1][buyer] += n;
            p.has[0][buyer] -= n * price;
            p.has[0][seller] += n * price;
            if (best[3] == 0) {
                p.book.remove(best);
            }
        }
        return left;
    }

    private void newRound(int v) {
        Person p = people[v];
        p.round++;
        int best = -1;
        int most = 0;
        for (int u = 4; u >= 0; u--) {
            boolean in = u == v || (trust[v][1] >> u & 1) == 1 || (trust[v][2] > 0 && (trust[v][3] >> u & 1) == 1);
            int rank = (37 * u + 61 * p.slot + 17 * p.round) * 29 % 101;
            if (in && (best < 0 || rank >= most)) {
                best = u;
                most = rank;
            }
        }
        p.leader[best] = true;
    }

    boolean trust(int v, int threshold, int members, int inner, int group) {
        if (v < 0 || v > 4 || threshold < 1 || threshold > 6 || members < 0 || members > 31) {
            return false;
        }
        if (inner < 0 || inner > 5 || group < 0 || group > 31 || frozen) {
            return false;
        }
        trust[v] = new int[] {threshold, members, inner, group};
        return true;
    }

    boolean submit(int slot, int j, int kind, int from, int what, int other, int amount) {
        if (slot < 0 || slot > 2 || j < 0 || j > 2 || kind < 0 || kind > 1 || from < 0 || from > 3) {
            return false;
        }
        if (what < 0 || what > 1 || amount < 1 || amount > 1000 || transactions[slot][j] != null) {
            return false;
        }
        if (kind == 0 ? other < 0 || other > 3 : other < 1 || other > 9) {
            return false;
        }
        for (int v = 0; v < 5; v++) {
            if (good(v) && people[v].slot > slot) {
                return false;
            }
        }
        transactions[slot][j] = new int[] {kind, from, what, other, amount};
        return true;
    }

    boolean propose(int v, int x) {
        if (!good(v) || x < 1 || x > 7 || people[v].slot == 3 || people[v].proposal != 0) {
            return false;
        }
        frozen = true;
        people[v].proposal = x;
        if (people[v].round == 0) {
            newRound(v);
        }
        stir(v);
        return true;
    }

    boolean timeout(int v) {
        if (!good(v) || people[v].slot == 3 || people[v].round == 0) {
            return false;
        }
        frozen = true;
        if (composite(v) == 0) {
            newRound(v);
        } else if (people[v].counter < 4) {
            people[v].counter++;
            vote(v, PREPARE, 7 * (people[v].counter - 1) + valueToPrepare(v) - 1);
        }
        stir(v);
        return true;
    }

    int post(int v, int slot) {
        if (!good(v) || slot < 0 || slot > 2 || slot > people[v].slot || letters.size() == 120) {
            return -1;
        }
        boolean[][] backed = new boolean[3][];
        boolean[][] accepted = new boolean[3][];
        for (int kind = 0; kind < 3; kind++) {
            backed[kind] = people[v].backed[v][slot][kind].clone();
            accepted[kind] = people[v].accepted[v][slot][kind].clone();
        }
        return keep(new Letter(v, slot, backed, accepted));
    }

    int forge(int v, int slot, int values, int prepare, int commit) {
        if (v < 0 || v > 4 || good(v) || slot < 0 || slot > 2 || letters.size() == 120) {
            return -1;
        }
        boolean[][] said = new boolean[3][28];
        for (int i = 0; i < 28; i++) {
            said[NOMINATE][i] = i > 0 && i < 8 && (values >> i & 1) == 1;
            said[PREPARE][i] = (prepare >> i & 1) == 1;
            said[COMMIT][i] = (commit >> i & 1) == 1;
        }
        return keep(new Letter(v, slot, said, said));
    }

    private int keep(Letter letter) {
        frozen = true;
        letters.add(letter);
        return letters.size() - 1;
    }

    boolean deliver(int k, int v) {
        if (k < 0 || k >= letters.size() || !good(v)) {
            return false;
        }
        Letter letter = letters.get(k);
        Person p = people[v];
        if (letter.sender() == v || letter.slot() != p.slot) {
            return false;
        }
        for (int kind = 0; kind < 3; kind++) {
            for (int i = 0; i < 28; i++) {
                p.backed[letter.sender()][p.slot][kind][i] |= letter.backed()[kind][i];
                p.accepted[letter.sender()][p.slot][kind][i] |= letter.accepted()[kind][i];
            }
        }
        stir(v);
        return true;
    }

    int envelopes() {
        return letters.size();
    }

    int state(int v, int what) {
        if (!good(v) || what < 0 || what > 5) {
            return -1;
        }
        Person p = people[v];
        int leaders = 0;
        for (int u = 0; u < 5; u++) {
            leaders |= p.leader[u] ? 1 << u : 0;
        }
        int composite = p.slot == 3 ? 0 : composite(v);
        return new int[] {p.slot, p.round, leaders, p.counter, composite, p.proposal}[what];
    }

    int statements(int v, int slot, int kind, int how) {
        if (!good(v) || slot < 0 || slot > 2 || kind < 0 || kind > 2 || how < 0 || how > 2) {
            return -1;
        }
        Person p = people[v];
        boolean[] row = how == 0 ? p.voted[slot][kind] : how == 1 ? p.accepted[v][slot][kind] : p.confirmed[slot][kind];
        int set = 0;
        for (int i = 0; i < SIZE[kind]; i++) {
            set |= row[i] ? 1 << i : 0;
        }
        return set;
    }

    int value(int v, int slot) {
        return !good(v) || slot < 0 || slot > 2 ? -1 : people[v].outcome[slot];
    }

    int header(int v) {
        return good(v) ? people[v].header : 0;
    }

    int balance(int v, int a, int asset) {
        return !good(v) || a < 0 || a > 3 || asset < 0 || asset > 1 ? -1 : people[v].has[asset][a];
    }

    int offer(int v, int k) {
        if (!good(v) || k < 0 || k >= people[v].book.size()) {
            return -1;
        }
        int[] o = people[v].book.get(k);
        return o[0] + 4 * o[1] + 16 * o[2] + 256 * o[3];
    }
}
