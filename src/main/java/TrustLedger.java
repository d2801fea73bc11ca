/**
 * Five nodes agree slot by slot on sets of transactions by federated voting,
 * and each carries out what was agreed on in a ledger of its own.
 */
public final class TrustLedger {
    public static final int NONE = -1;

    private static final int NODES = 5;
    private static final int ALL_NODES = 31;
    private static final int MOST_THRESHOLD = 6;
    private static final int SLOTS = 3;
    private static final int SLOT_TRANSACTIONS = 3;
    private static final int MOST_ENVELOPES = 120;

    private static final int KINDS = 3;
    private static final int NOMINATE = 0;
    private static final int PREPARE = 1;
    private static final int COMMIT = 2;

    private static final int VALUES = 7;
    private static final int ALL_VALUES = 0xFE;
    private static final int COUNTERS = 4;
    private static final int BALLOTS = VALUES * COUNTERS;
    private static final int ALL_BALLOTS = (1 << BALLOTS) - 1;
    /** The ballots of value 1; those of value x stand x - 1 bits higher. */
    private static final int BALLOTS_OF_ONE = 1 | 1 << 7 | 1 << 14 | 1 << 21;
    /** Every pass but the last one sets a new bit or the counter, and there are 190 of these. */
    private static final int MOST_PASSES = 200;

    private static final int ACCOUNTS = 4;
    private static final int FIRST_COINS = 100;
    private static final int FIRST_SHARES = 20;
    private static final int PAY = 0;
    private static final int OFFER = 1;
    private static final int COIN = 0;
    private static final int SELLS = 1;
    private static final int MOST_PRICE = 9;
    private static final int MOST_AMOUNT = 1000;
    private static final int BOOK_ROOM = 8;
    /** Every step trades a share at least, or takes one of the book's offers out, or is the last. */
    private static final int MOST_STEPS = MOST_AMOUNT + BOOK_ROOM + 1;

    private final int faulty;
    private final Quorums quorums;
    private final Node[] nodes;
    private final Transaction[] transactions;
    private final Envelope[] mail;
    private int mailed;
    private boolean begun;

    public TrustLedger(int faulty) {
        this.faulty = faulty & ALL_NODES;
        Quorums shared = new Quorums();
        quorums = shared;
        nodes = new Node[NODES];
        for (int v = 0; v < NODES; v++) {
            nodes[v] = new Node(v, shared);
        }
        transactions = new Transaction[SLOTS * SLOT_TRANSACTIONS];
        mail = new Envelope[MOST_ENVELOPES];
    }

    public boolean trust(int v, int threshold, int members, int inner, int group) {
        boolean sound = isWithin(v, 0, NODES - 1) && isWithin(threshold, 1, MOST_THRESHOLD)
            && isWithin(members, 0, ALL_NODES) && isWithin(inner, 0, NODES)
            && isWithin(group, 0, ALL_NODES);
        if (!sound || begun) {
            return false;
        }
        quorums.trusts[v].become(threshold, members, inner, group);
        return true;
    }

    public boolean submit(int slot, int j, int kind, int from, int what, int other, int amount) {
        boolean sound = isSlot(slot) && isWithin(j, 0, SLOT_TRANSACTIONS - 1)
            && isWithin(kind, PAY, OFFER) && isAccount(from) && isWithin(what, 0, 1)
            && (kind == PAY ? isAccount(other) : isWithin(other, 1, MOST_PRICE))
            && isWithin(amount, 1, MOST_AMOUNT);
        if (!sound || isLeft(slot)) {
            return false;
        }
        int place = slot * SLOT_TRANSACTIONS + j;
        if (transactions[place] != null) {
            return false;
        }
        transactions[place] = new Transaction(kind, from, what, other, amount);
        return true;
    }

    public boolean propose(int v, int x) {
        if (!isAtWork(v) || !isWithin(x, 1, VALUES)) {
            return false;
        }
        Agreement agreement = nodes[v].agreements[nodes[v].slot];
        if (agreement.proposal != 0) {
            return false;
        }
        begun = true;
        agreement.takeProposal(x);
        agreement.stir();
        closeSlot(nodes[v], agreement.outcome);
        return true;
    }

    public boolean timeout(int v) {
        if (!isAtWork(v)) {
            return false;
        }
        Agreement agreement = nodes[v].agreements[nodes[v].slot];
        if (agreement.round == 0) {
            return false;
        }
        begun = true;
        agreement.runOutOfTime();
        agreement.stir();
        closeSlot(nodes[v], agreement.outcome);
        return true;
    }

    public int post(int v, int slot) {
        if (!isGood(v) || !isSlot(slot) || slot > nodes[v].slot || mailed >= MOST_ENVELOPES) {
            return NONE;
        }
        Envelope envelope = new Envelope(v, slot);
        for (int kind = 0; kind < KINDS; kind++) {
            Statements own = nodes[v].agreements[slot].ofKind(kind);
            envelope.backed[kind] = own.backed[v];
            envelope.accepted[kind] = own.accepted[v];
        }
        return keepEnvelope(envelope);
    }

    public int forge(int v, int slot, int values, int prepare, int commit) {
        boolean isFaulty = isWithin(v, 0, NODES - 1) && has(faulty, v);
        if (!isFaulty || !isSlot(slot) || mailed >= MOST_ENVELOPES) {
            return NONE;
        }
        Envelope envelope = new Envelope(v, slot);
        envelope.claim(NOMINATE, values & ALL_VALUES);
        envelope.claim(PREPARE, prepare & ALL_BALLOTS);
        envelope.claim(COMMIT, commit & ALL_BALLOTS);
        return keepEnvelope(envelope);
    }

    public boolean deliver(int k, int v) {
        if (!isWithin(k, 0, MOST_ENVELOPES - 1) || !isAtWork(v)) {
            return false;
        }
        Envelope envelope = mail[k];
        if (envelope == null || envelope.sender == v || envelope.slot != nodes[v].slot) {
            return false;
        }
        Agreement agreement = nodes[v].agreements[envelope.slot];
        agreement.learn(envelope);
        agreement.stir();
        closeSlot(nodes[v], agreement.outcome);
        return true;
    }

    public int envelopes() {
        return mailed;
    }

    public int state(int v, int what) {
        if (!isGood(v) || !isWithin(what, 0, 5)) {
            return NONE;
        }
        int slot = nodes[v].slot;
        if (what == 0) {
            return slot;
        }
        return isSlot(slot) ? nodes[v].agreements[slot].aspect(what) : 0;
    }

    public int statements(int v, int slot, int kind, int how) {
        if (!isGood(v) || !isSlot(slot) || !isWithin(kind, 0, KINDS - 1) || !isWithin(how, 0, 2)) {
            return NONE;
        }
        Statements own = nodes[v].agreements[slot].ofKind(kind);
        if (how == 0) {
            return own.voted;
        }
        return how == 1 ? own.accepted[v] : own.confirmed;
    }

    public int value(int v, int slot) {
        return isGood(v) && isSlot(slot) ? nodes[v].agreements[slot].outcome : NONE;
    }

    public int header(int v) {
        return isGood(v) ? nodes[v].head : 0;
    }

    public int balance(int v, int a, int asset) {
        if (!isGood(v) || !isAccount(a) || !isWithin(asset, 0, 1)) {
            return NONE;
        }
        return nodes[v].ledger.holdings(asset)[a];
    }

    public int offer(int v, int k) {
        if (!isGood(v) || !isWithin(k, 0, BOOK_ROOM - 1)) {
            return NONE;
        }
        Offer found = nodes[v].ledger.book[k];
        if (found == null) {
            return NONE;
        }
        return found.account + 4 * found.side + 16 * found.price + 256 * found.amount;
    }

    private static boolean isWithin(int n, int least, int most) {
        return n >= least && n <= most;
    }

    private static boolean has(int set, int i) {
        return (set >>> i & 1) != 0;
    }

    private static boolean isSlot(int slot) {
        return isWithin(slot, 0, SLOTS - 1);
    }

    private static boolean isAccount(int a) {
        return isWithin(a, 0, ACCOUNTS - 1);
    }

    private static int valueOf(int ballot) {
        return ballot % VALUES + 1;
    }

    private static int ballotOf(int counter, int x) {
        return VALUES * (counter - 1) + x - 1;
    }

    private static int otherValued(int ballot) {
        return ALL_BALLOTS & ~(BALLOTS_OF_ONE << ballot % VALUES);
    }

    private static int abortedBy(int ballot) {
        return otherValued(ballot) & (1 << ballot) - 1;
    }

    private static int abortersOf(int ballot) {
        return otherValued(ballot) & ~((1 << ballot) - 1);
    }

    private boolean isGood(int v) {
        return isWithin(v, 0, NODES - 1) && !has(faulty, v);
    }

    private boolean isAtWork(int v) {
        return isGood(v) && isSlot(nodes[v].slot);
    }

    private boolean isLeft(int slot) {
        for (int v = 0; v < NODES; v++) {
            // A faulty node's slot stays 0, so that it never counts here.
            if (nodes[v].slot > slot) {
                return true;
            }
        }
        return false;
    }

    private int keepEnvelope(Envelope envelope) {
        begun = true;
        mail[mailed] = envelope;
        mailed++;
        return mailed - 1;
    }

    private void closeSlot(Node node, int outcome) {
        if (outcome == 0) {
            return;
        }
        for (int j = 0; j < SLOT_TRANSACTIONS; j++) {
            Transaction transaction = transactions[node.slot * SLOT_TRANSACTIONS + j];
            if (has(outcome, j) && transaction != null) {
                node.ledger.carryOut(transaction);
            }
        }
        node.head = 31 * (31 * node.head + node.slot) + outcome;
        node.slot++;
    }

    /** Whom one node trusts; without an inner group, inner is 0. */
    private static final class Trust {
        private int threshold = 4;
        private int members = ALL_NODES;
        private int inner;
        private int group;

        void become(int newThreshold, int newMembers, int newInner, int newGroup) {
            threshold = newThreshold;
            members = newMembers;
            inner = newInner;
            group = newInner > 0 ? newGroup : 0;
        }

        boolean isSatisfiedBy(int set) {
            int count = Integer.bitCount(set & members);
            if (inner > 0 && Integer.bitCount(set & group) >= inner) {
                count++;
            }
            return count >= threshold;
        }

        boolean isBlockedBy(int set) {
            return !isSatisfiedBy(ALL_NODES & ~set);
        }

        int everyone() {
            return members | group;
        }
    }

    /** The trust of all nodes, which together decide what a quorum is. */
    private static final class Quorums {
        private final Trust[] trusts;

        Quorums() {
            trusts = new Trust[NODES];
            for (int v = 0; v < NODES; v++) {
                trusts[v] = new Trust();
            }
        }

        /**
         * Nodes that the rest does not satisfy can be in no quorum within it:
         * what remains without them is the greatest quorum.
         */
        boolean isGivenTo(int v, int set) {
            int rest = set;
            for (int taken = 0; taken < NODES && has(rest, v); taken++) {
                int before = rest;
                for (int u = 0; u < NODES; u++) {
                    if (has(rest, u) && !trusts[u].isSatisfiedBy(rest)) {
                        rest &= ~(1 << u);
                    }
                }
                if (rest == before) {
                    return true;
                }
            }
            return false;
        }
    }

    /** One node's statements of one kind in one slot, and what it knows of all nodes' ones. */
    private static final class Statements {
        private final int self;
        private final Quorums quorums;
        private int voted;
        private int confirmed;
        private final int[] backed;
        private final int[] accepted;

        Statements(int self, Quorums quorums) {
            this.self = self;
            this.quorums = quorums;
            backed = new int[NODES];
            accepted = new int[NODES];
        }

        boolean vote(int i) {
            if (has(voted, i)) {
                return false;
            }
            voted |= 1 << i;
            backed[self] |= 1 << i;
            return true;
        }

        boolean acceptIfMay(int i) {
            if (has(accepted[self], i)) {
                return false;
            }
            // No quorum is given to a node that is not in it: most statements fail by that alone.
            boolean may = has(backed[self], i) && quorums.isGivenTo(self, nodesWith(backed, i))
                || quorums.trusts[self].isBlockedBy(nodesWith(accepted, i));
            if (may) {
                accepted[self] |= 1 << i;
                backed[self] |= 1 << i;
            }
            return may;
        }

        boolean confirmIfMay(int i) {
            boolean open = has(accepted[self], i) && !has(confirmed, i);
            if (!open || !quorums.isGivenTo(self, nodesWith(accepted, i))) {
                return false;
            }
            confirmed |= 1 << i;
            return true;
        }

        int nodesWith(int[] sets, int i) {
            int found = 0;
            for (int u = 0; u < NODES; u++) {
                if (has(sets[u], i)) {
                    found |= 1 << u;
                }
            }
            return found;
        }
    }

    /** One node's way to an outcome in one slot; the outcome is 0 as long as there is none. */
    private static final class Agreement {
        private final int self;
        private final int slot;
        private final Trust trusted;
        private final Statements nominate;
        private final Statements prepare;
        private final Statements commit;
        private int proposal;
        private int round;
        private int leaders;
        private int counter;
        private int outcome;

        Agreement(int self, int slot, Quorums quorums) {
            this.self = self;
            this.slot = slot;
            trusted = quorums.trusts[self];
            nominate = new Statements(self, quorums);
            prepare = new Statements(self, quorums);
            commit = new Statements(self, quorums);
        }

        Statements ofKind(int kind) {
            if (kind == NOMINATE) {
                return nominate;
            }
            return kind == PREPARE ? prepare : commit;
        }

        int aspect(int what) {
            switch (what) {
                case 1: return round;
                case 2: return leaders;
                case 3: return counter;
                case 4: return composite();
                default: return proposal;
            }
        }

        void takeProposal(int x) {
            proposal = x;
            if (round == 0) {
                beginRound();
            }
        }

        void runOutOfTime() {
            if (composite() == 0) {
                beginRound();
            } else if (counter < COUNTERS) {
                raiseCounter();
            }
        }

        void learn(Envelope envelope) {
            for (int kind = 0; kind < KINDS; kind++) {
                Statements known = ofKind(kind);
                known.backed[envelope.sender] |= envelope.backed[kind];
                known.accepted[envelope.sender] |= envelope.accepted[kind];
            }
        }

        /** Each rule is run in every pass: hence | and not ||. */
        void stir() {
            boolean changed = true;
            for (int pass = 0; pass < MOST_PASSES && changed && outcome == 0; pass++) {
                changed = voteNominate() | acceptNominate() | confirmNominate()
                    | beginPrepare() | acceptPrepare() | confirmPrepare()
                    | voteCommit() | settleCommit();
            }
        }

        private void beginRound() {
            round++;
            int candidates = trusted.everyone() | 1 << self;
            int best = self;
            int most = -1;
            for (int u = 0; u < NODES; u++) {
                int rank = (37 * u + 61 * slot + 17 * round) * 29 % 101;
                if (has(candidates, u) && rank > most) {
                    best = u;
                    most = rank;
                }
            }
            leaders |= 1 << best;
        }

        private void raiseCounter() {
            counter++;
            prepare.vote(ballotOf(counter, valueToPrepare()));
        }

        private int composite() {
            int union = 0;
            for (int x = 1; x <= VALUES; x++) {
                if (has(nominate.confirmed, x)) {
                    union |= x;
                }
            }
            return union;
        }

        private int valueToPrepare() {
            for (int b = BALLOTS - 1; b >= 0; b--) {
                if (has(prepare.confirmed, b)) {
                    return valueOf(b);
                }
            }
            return composite();
        }

        private boolean voteNominate() {
            boolean changed = false;
            if (nominate.confirmed != 0) {
                return changed;
            }
            for (int x = 1; x <= VALUES; x++) {
                boolean own = has(leaders, self) && x == proposal;
                if (own || (nominate.nodesWith(nominate.backed, x) & leaders) != 0) {
                    changed |= nominate.vote(x);
                }
            }
            return changed;
        }

        private boolean acceptNominate() {
            boolean changed = false;
            for (int x = 1; x <= VALUES; x++) {
                changed |= nominate.acceptIfMay(x);
            }
            return changed;
        }

        private boolean confirmNominate() {
            boolean changed = false;
            for (int x = 1; x <= VALUES; x++) {
                changed |= nominate.confirmIfMay(x);
            }
            return changed;
        }

        private boolean beginPrepare() {
            if (counter != 0 || composite() == 0) {
                return false;
            }
            raiseCounter();
            return true;
        }

        private boolean acceptPrepare() {
            boolean changed = false;
            for (int b = 0; b < BALLOTS; b++) {
                if ((commit.accepted[self] & abortedBy(b)) == 0) {
                    changed |= prepare.acceptIfMay(b);
                }
            }
            return changed;
        }

        private boolean confirmPrepare() {
            boolean changed = false;
            for (int b = 0; b < BALLOTS; b++) {
                changed |= prepare.confirmIfMay(b);
            }
            return changed;
        }

        private boolean voteCommit() {
            boolean changed = false;
            for (int b = 0; b < BALLOTS; b++) {
                if (has(prepare.confirmed, b) && (prepare.backed[self] & abortersOf(b)) == 0) {
                    changed |= commit.vote(b);
                }
            }
            return changed;
        }

        private boolean settleCommit() {
            boolean changed = false;
            for (int b = 0; b < BALLOTS && outcome == 0; b++) {
                if ((prepare.accepted[self] & abortersOf(b)) == 0) {
                    changed |= commit.acceptIfMay(b);
                }
                if (commit.confirmIfMay(b)) {
                    outcome = valueOf(b);
                }
            }
            return changed;
        }
    }

    /** A node: the slot it is in, its way through each slot, and its ledger. */
    private static final class Node {
        private final Agreement[] agreements;
        private final Ledger ledger;
        private int slot;
        private int head;

        Node(int self, Quorums quorums) {
            agreements = new Agreement[SLOTS];
            for (int s = 0; s < SLOTS; s++) {
                agreements[s] = new Agreement(self, s, quorums);
            }
            ledger = new Ledger();
        }
    }

    /** What a sender says of a slot: for each kind, which statements it backed and accepted. */
    private static final class Envelope {
        private final int sender;
        private final int slot;
        private final int[] backed;
        private final int[] accepted;

        Envelope(int sender, int slot) {
            this.sender = sender;
            this.slot = slot;
            backed = new int[KINDS];
            accepted = new int[KINDS];
        }

        void claim(int kind, int set) {
            backed[kind] = set;
            accepted[kind] = set;
        }
    }

    /** A transaction as it was submitted. */
    private static final class Transaction {
        private final int kind;
        private final int from;
        private final int what;
        private final int other;
        private final int amount;

        Transaction(int kind, int from, int what, int other, int amount) {
            this.kind = kind;
            this.from = from;
            this.what = what;
            this.other = other;
            this.amount = amount;
        }
    }

    /** An offer to buy or sell shares, with the amount that is left of it. */
    private static final class Offer {
        private final int account;
        private final int side;
        private final int price;
        private int amount;

        Offer(int account, int side, int price, int amount) {
            this.account = account;
            this.side = side;
            this.price = price;
            this.amount = amount;
        }

        boolean sells() {
            return side == SELLS;
        }

        boolean agreesTo(int asked) {
            return sells() ? asked >= price : asked <= price;
        }

        boolean prefers(int asked, int than) {
            return sells() ? asked > than : asked < than;
        }
    }

    /** Accounts with coins and shares, and the book of resting offers in the order they came. */
    private static final class Ledger {
        private final int[] coins;
        private final int[] shares;
        private final Offer[] book;
        private int resting;

        Ledger() {
            coins = new int[ACCOUNTS];
            shares = new int[ACCOUNTS];
            for (int a = 0; a < ACCOUNTS; a++) {
                coins[a] = FIRST_COINS;
                shares[a] = FIRST_SHARES;
            }
            book = new Offer[BOOK_ROOM];
        }

        int[] holdings(int asset) {
            return asset == COIN ? coins : shares;
        }

        void carryOut(Transaction t) {
            if (coins[t.from] == 0) {
                return;
            }
            coins[t.from]--;
            if (t.kind == OFFER) {
                match(new Offer(t.from, t.what, t.other, t.amount));
            } else if (holdings(t.what)[t.from] >= t.amount) {
                move(holdings(t.what), t.from, t.other, t.amount);
            }
        }

        private void move(int[] holdings, int from, int to, int amount) {
            holdings[from] -= amount;
            holdings[to] += amount;
        }

        private void match(Offer comer) {
            boolean going = true;
            for (int step = 0; step < MOST_STEPS && going && comer.amount > 0; step++) {
                int k = bestFor(comer);
                going = k != NONE && tradeWith(comer, k);
            }
            if (comer.amount > 0 && resting < BOOK_ROOM) {
                book[resting] = comer;
                resting++;
            }
        }

        private int bestFor(Offer comer) {
            int best = NONE;
            int bestPrice = 0;
            for (int k = 0; k < BOOK_ROOM; k++) {
                Offer rested = book[k];
                boolean meets = rested != null && rested.side != comer.side
                    && comer.agreesTo(rested.price);
                if (meets && (best == NONE || comer.prefers(rested.price, bestPrice))) {
                    best = k;
                    bestPrice = rested.price;
                }
            }
            return best;
        }

        /** Answers whether the comer may go on with the next best offer. */
        private boolean tradeWith(Offer comer, int k) {
            Offer rested = book[k];
            // Neither can be: bestFor found it, and submit lets no price below 1 in.
            if (rested == null || rested.price < 1) {
                return false;
            }
            int seller = comer.sells() ? comer.account : rested.account;
            int buyer = comer.sells() ? rested.account : comer.account;
            int affordable = coins[buyer] / rested.price;
            int traded = Math.min(Math.min(comer.amount, rested.amount),
                Math.min(shares[seller], affordable));
            if (traded == 0 && canServe(rested)) {
                return false;
            }
            comer.amount -= traded;
            rested.amount -= traded;
            move(shares, seller, buyer, traded);
            move(coins, buyer, seller, traded * rested.price);
            if (traded == 0 || rested.amount == 0) {
                takeOut(k);
            }
            return true;
        }

        private boolean canServe(Offer rested) {
            return rested.sells() ? shares[rested.account] > 0 : coins[rested.account] >= rested.price;
        }

        private void takeOut(int k) {
            resting--;
            for (int i = k; i < resting; i++) {
                book[i] = book[i + 1];
            }
            book[resting] = null;
        }
    }
}
