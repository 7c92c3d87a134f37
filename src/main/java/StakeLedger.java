import java.util.Arrays;

/** The ledger of a chain that its stakeholders run; ../shared/DOC.md tells what each call promises. */
public final class StakeLedger {
    private static final int ACCOUNTS = 200;
    private static final int NODES = 16;
    private static final int ALL_NODES = (1 << NODES) - 1;
    private static final int FEE_TAKERS = 16;
    private static final int MOST_BONDS = 96;
    private static final int MOST_RETURNS = 32;
    private static final int KEPT_STATES = 8;

    private static final int FIRST_BALANCE = 1000;
    private static final int FIRST_BOND = 100;
    private static final int FEE = 1;
    private static final int MOST_AMOUNT = 1000000;
    private static final int MOST_HEIGHT = 1000000;
    private static final int MOST_ROUND = 1000000;
    private static final int HEIGHTS_TO_RETURN = 4;

    private static final int OF_BALANCE = 0;
    private static final int OF_FIRST_NODE = 1;
    private static final int OF_RETURNS = 17;

    private static final int SUM_JAILED = 16;
    private static final int SUM_BURNT = 17;
    private static final int SUM_RETURNS = 18;
    private static final int SUM_BONDS = 19;
    private static final int SUM_ALL = 20;
    private static final int SUM_HEIGHT = 21;

    private final State now;

    // An empty place stands for the first state: most objects keep few states, and room is counted.
    private final State[] kept;

    public StakeLedger() {
        now = new State();
        kept = new State[KEPT_STATES];
    }

    public int pay(int a, int b, int v, int p) throws IllegalArgumentException, IllegalStateException {
        if (!isAccount(a) || !isAccount(b) || !isAmount(v) || !isFeeTaker(p)) {
            throw new IllegalArgumentException("no such account or amount");
        }
        if (!now.affords(a, v, p)) {
            throw new IllegalStateException("the balance is not enough");
        }
        now.takeFee(a, p);
        now.balance[a] -= v;
        now.balance[b] += v;
        return now.balance[a];
    }

    public int bond(int a, int n, int v, int p) throws IllegalArgumentException, IllegalStateException {
        if (!isAccount(a) || !isNode(n) || !isAmount(v) || !isFeeTaker(p)) {
            throw new IllegalArgumentException("no such account, node or amount");
        }
        if (!now.affords(a, v, p)) {
            throw new IllegalStateException("the balance is not enough");
        }
        if (!now.bonds.hasPlaceFor(a, n)) {
            throw new IllegalStateException("there are too many bonds");
        }
        now.takeFee(a, p);
        now.balance[a] -= v;
        now.bonds.increase(a, n, v);
        return now.bonds.amountOf(a, n);
    }

    public int unbond(int a, int n, int v, int p) throws IllegalArgumentException, IllegalStateException {
        if (!isAccount(a) || !isNode(n) || !isAmount(v) || !isFeeTaker(p)) {
            throw new IllegalArgumentException("no such account, node or amount");
        }
        if (!now.affords(a, 0, p)) {
            throw new IllegalStateException("there is no fee");
        }
        if (now.bonds.amountOf(a, n) < v) {
            throw new IllegalStateException("the bond is not enough");
        }
        if (now.returns.isFull()) {
            throw new IllegalStateException("there are too many returns");
        }
        now.takeFee(a, p);
        now.bonds.decrease(a, n, v);
        now.returns.append(a, v, now.height + HEIGHTS_TO_RETURN);
        return now.returns.count;
    }

    public int free(int a, int n, int p) throws IllegalArgumentException, IllegalStateException {
        if (!isAccount(a) || !isNode(n) || !isFeeTaker(p)) {
            throw new IllegalArgumentException("no such account or node");
        }
        if (!now.affords(a, 0, p)) {
            throw new IllegalStateException("there is no fee");
        }
        if (!now.isJailed(n)) {
            throw new IllegalStateException("the node is not jailed");
        }
        now.takeFee(a, p);
        now.jailed &= ~(1 << n);
        return now.power(n);
    }

    public int prove(int a, int n, int h, int p) throws IllegalArgumentException, IllegalStateException {
        if (!isAccount(a) || !isNode(n) || !isFeeTaker(p)) {
            throw new IllegalArgumentException("no such account or node");
        }
        if (!now.affords(a, 0, p)) {
            throw new IllegalStateException("there is no fee");
        }
        if (h > now.height || h <= now.provedHeight[n]) {
            throw new IllegalStateException("the height is too high, or not above the proved one");
        }
        now.takeFee(a, p);
        now.provedHeight[n] = h;
        now.jailed |= 1 << n;
        int lost = now.bonds.cutQuarters(n);
        now.burnt += lost;
        return lost;
    }

    public int next() throws IllegalStateException {
        if (now.height >= MOST_HEIGHT) {
            throw new IllegalStateException("the height is the last one");
        }
        now.height++;
        return now.returns.release(now.height, now.balance);
    }

    public void keep(int k) throws IndexOutOfBoundsException {
        if (!isKeptState(k)) {
            throw new IndexOutOfBoundsException("no such kept state");
        }
        if (kept[k] == null) {
            kept[k] = new State();
        }
        kept[k].become(now);
    }

    public int back(int k) throws IndexOutOfBoundsException {
        if (!isKeptState(k)) {
            throw new IndexOutOfBoundsException("no such kept state");
        }
        if (kept[k] == null) {
            now.becomeFirst();
        } else {
            now.become(kept[k]);
        }
        return now.height;
    }

    public int account(int a, int what) throws IndexOutOfBoundsException, IllegalArgumentException {
        if (!isAccount(a)) {
            throw new IndexOutOfBoundsException("no such account");
        }
        if (what < OF_BALANCE || what > OF_RETURNS) {
            throw new IllegalArgumentException("an account has no such thing");
        }
        if (what == OF_BALANCE) {
            return now.balance[a];
        }
        if (what == OF_RETURNS) {
            return now.returns.amountOf(a);
        }
        return now.bonds.amountOf(a, what - OF_FIRST_NODE);
    }

    public int sum(int what) throws IllegalArgumentException {
        if (isNode(what)) {
            return now.power(what);
        }
        switch (what) {
            case SUM_JAILED:
                return now.jailed;
            case SUM_BURNT:
                return now.burnt;
            case SUM_RETURNS:
                return now.returns.count;
            case SUM_BONDS:
                return now.bonds.count;
            case SUM_ALL:
                return now.everything();
            case SUM_HEIGHT:
                return now.height;
            default:
                throw new IllegalArgumentException("there is no such sum");
        }
    }

    public int proposer(int h, int r) throws IllegalArgumentException {
        if (h < 0 || h > MOST_HEIGHT || r < 0 || r > MOST_ROUND) {
            throw new IllegalArgumentException("no such height or round");
        }
        int all = now.powerOf(ALL_NODES);
        if (all <= 0) {
            return -1;
        }
        int mark = (131 * h + 307 * r) % all;
        int reached = 0;
        for (int n = 0; n < NODES; n++) {
            reached += now.power(n);
            if (reached > mark) {
                return n;
            }
        }
        return -1;
    }

    public int share(int nodes) {
        int theirs = 3 * now.powerOf(nodes);
        int all = now.powerOf(ALL_NODES);
        if (theirs > 2 * all) {
            return 2;
        }
        return theirs > all ? 1 : 0;
    }

    private static boolean isAccount(int a) {
        return a >= 0 && a < ACCOUNTS;
    }

    private static boolean isFeeTaker(int p) {
        return p >= 0 && p < FEE_TAKERS;
    }

    private static boolean isNode(int n) {
        return n >= 0 && n < NODES;
    }

    private static boolean isAmount(int v) {
        return v >= 1 && v <= MOST_AMOUNT;
    }

    private static boolean isKeptState(int k) {
        return k >= 0 && k < KEPT_STATES;
    }

    /** All that keep and back carry over. */
    private static final class State {
        private final int[] balance;
        private final Bonds bonds;
        private final Returns returns;
        private final int[] provedHeight;
        private int height;
        private int jailed;
        private int burnt;

        private State() {
            balance = new int[ACCOUNTS];
            bonds = new Bonds();
            returns = new Returns();
            provedHeight = new int[NODES];
            becomeFirst();
        }

        private void becomeFirst() {
            Arrays.fill(balance, FIRST_BALANCE);
            bonds.becomeFirst();
            returns.count = 0;
            Arrays.fill(provedHeight, 0);
            height = 0;
            jailed = 0;
            burnt = 0;
        }

        private void become(State other) {
            System.arraycopy(other.balance, 0, balance, 0, ACCOUNTS);
            bonds.become(other.bonds);
            returns.become(other.returns);
            System.arraycopy(other.provedHeight, 0, provedHeight, 0, NODES);
            height = other.height;
            jailed = other.jailed;
            burnt = other.burnt;
        }

        private boolean affords(int a, int v, int p) {
            // The fee must be there even when it comes straight back to the one who gives it.
            if (balance[a] < FEE) {
                return false;
            }
            int left = p == a ? balance[a] : balance[a] - FEE;
            return left >= v;
        }

        private void takeFee(int a, int p) {
            balance[a] -= FEE;
            balance[p] += FEE;
        }

        private boolean isJailed(int n) {
            return (jailed >> n & 1) == 1;
        }

        private int power(int n) {
            return isJailed(n) ? 0 : bonds.amountWith(n);
        }

        private int powerOf(int nodes) {
            int together = 0;
            for (int n = 0; n < NODES; n++) {
                if ((nodes >> n & 1) == 1) {
                    together += power(n);
                }
            }
            return together;
        }

        private int everything() {
            int all = burnt + bonds.total() + returns.total();
            for (int a = 0; a < ACCOUNTS; a++) {
                all += balance[a];
            }
            return all;
        }
    }

    /** A short list and not a table of accounts by nodes, as only 96 of the 3200 places are ever used. */
    private static final class Bonds {
        private final int[] owner;
        private final int[] node;
        private final int[] amount;
        private int count;

        private Bonds() {
            owner = new int[MOST_BONDS];
            node = new int[MOST_BONDS];
            amount = new int[MOST_BONDS];
        }

        private void becomeFirst() {
            for (int n = 0; n < NODES; n++) {
                owner[n] = n;
                node[n] = n;
                amount[n] = FIRST_BOND;
            }
            count = NODES;
        }

        private void become(Bonds other) {
            System.arraycopy(other.owner, 0, owner, 0, MOST_BONDS);
            System.arraycopy(other.node, 0, node, 0, MOST_BONDS);
            System.arraycopy(other.amount, 0, amount, 0, MOST_BONDS);
            count = other.count;
        }

        private int find(int a, int n) {
            for (int i = 0; i < count; i++) {
                if (owner[i] == a && node[i] == n) {
                    return i;
                }
            }
            return -1;
        }

        private int amountOf(int a, int n) {
            int at = find(a, n);
            return at < 0 ? 0 : amount[at];
        }

        private boolean hasPlaceFor(int a, int n) {
            return count < MOST_BONDS || find(a, n) >= 0;
        }

        private void increase(int a, int n, int v) {
            int at = find(a, n);
            if (at >= 0) {
                amount[at] += v;
            } else if (count < MOST_BONDS) {
                owner[count] = a;
                node[count] = n;
                amount[count] = v;
                count++;
            }
        }

        private void decrease(int a, int n, int v) {
            int at = find(a, n);
            if (at < 0) {
                return;
            }
            amount[at] -= v;
            if (amount[at] == 0) {
                remove(at);
            }
        }

        private void remove(int at) {
            // No answer depends on the order of bonds, so the last one may fill the gap.
            count--;
            owner[at] = owner[count];
            node[at] = node[count];
            amount[at] = amount[count];
        }

        private int amountWith(int n) {
            int with = 0;
            for (int i = 0; i < count; i++) {
                if (node[i] == n) {
                    with += amount[i];
                }
            }
            return with;
        }

        private int cutQuarters(int n) {
            int cut = 0;
            for (int i = 0; i < count; i++) {
                if (node[i] == n) {
                    int quarter = amount[i] / 4;
                    amount[i] -= quarter;
                    cut += quarter;
                }
            }
            return cut;
        }

        private int total() {
            int all = 0;
            for (int i = 0; i < count; i++) {
                all += amount[i];
            }
            return all;
        }
    }

    /** In the order in which they came. */
    private static final class Returns {
        private final int[] owner;
        private final int[] amount;
        private final int[] due;
        private int count;

        private Returns() {
            owner = new int[MOST_RETURNS];
            amount = new int[MOST_RETURNS];
            due = new int[MOST_RETURNS];
        }

        private void become(Returns other) {
            System.arraycopy(other.owner, 0, owner, 0, MOST_RETURNS);
            System.arraycopy(other.amount, 0, amount, 0, MOST_RETURNS);
            System.arraycopy(other.due, 0, due, 0, MOST_RETURNS);
            count = other.count;
        }

        private boolean isFull() {
            return count >= MOST_RETURNS;
        }

        private void append(int a, int v, int height) {
            if (isFull()) {
                return;
            }
            owner[count] = a;
            amount[count] = v;
            due[count] = height;
            count++;
        }

        private int release(int height, int[] balance) {
            int left = 0;
            for (int i = 0; i < count; i++) {
                if (due[i] <= height) {
                    balance[owner[i]] += amount[i];
                } else {
                    owner[left] = owner[i];
                    amount[left] = amount[i];
                    due[left] = due[i];
                    left++;
                }
            }
            int released = count - left;
            count = left;
            return released;
        }

        private int amountOf(int a) {
            int all = 0;
            for (int i = 0; i < count; i++) {
                if (owner[i] == a) {
                    all += amount[i];
                }
            }
            return all;
        }

        private int total() {
            int all = 0;
            for (int i = 0; i < count; i++) {
                all += amount[i];
            }
            return all;
        }
    }
}
