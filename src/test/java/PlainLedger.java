import java.util.ArrayList;
import java.util.Iterator;
import java.util.List;
import java.util.TreeMap;

/** The document once more, with tables and no thought for room, to compare long runs with. */
final class PlainLedger {
    private static final int REFUSED_ARGUMENT = 1;
    private static final int REFUSED_STATE = 2;

    private State now = new State();
    private final State[] kept = new State[8];

    PlainLedger() {
        for (int k = 0; k < 8; k++) {
            kept[k] = new State();
        }
    }

    /** The answer, or the simple name of the exception. */
    String answer(String call, int[] in) {
        switch (call) {
            case "pay": case "bond": case "unbond":
                return moved(call, in[0], in[1], in[2], in[3]);
            case "free":
                return freed(in[0], in[1], in[2]);
            case "prove":
                return proved(in[0], in[1], in[2], in[3]);
            case "next":
                return "" + gone();
            case "keep":
                return keptAs(in[0]);
            case "back":
                return backTo(in[0]);
            case "account":
                return ofAccount(in[0], in[1]);
            case "sum":
                return summed(in[0]);
            case "proposer":
                return proposed(in[0], in[1]);
            default:
                return "" + shared(in[0]);
        }
    }

    private static boolean in(int x, int low, int high) {
        return low <= x && x <= high;
    }

    private static String refusal(int kind) {
        return kind == REFUSED_ARGUMENT ? "IllegalArgumentException" : "IllegalStateException";
    }

    private String moved(String call, int a, int bn, int v, int p) {
        int most = call.equals("pay") ? 199 : 15;
        if (!in(a, 0, 199) || !in(bn, 0, most) || !in(p, 0, 15) || !in(v, 1, 1000000)) {
            return refusal(REFUSED_ARGUMENT);
        }
        State then = new State(now);
        if (!then.fee(a, p)) {
            return refusal(REFUSED_STATE);
        }
        Integer answer = call.equals("pay") ? then.paid(a, bn, v)
            : call.equals("bond") ? then.bonded(a, bn, v) : then.unbonded(a, bn, v);
        if (answer == null) {
            return refusal(REFUSED_STATE);
        }
        now = then;
        return "" + answer;
    }

    private String freed(int a, int n, int p) {
        if (!in(a, 0, 199) || !in(n, 0, 15) || !in(p, 0, 15)) {
            return refusal(REFUSED_ARGUMENT);
        }
        State then = new State(now);
        if (!then.fee(a, p) || !then.jailed[n]) {
            return refusal(REFUSED_STATE);
        }
        then.jailed[n] = false;
        now = then;
        return "" + now.power(n);
    }

    private String proved(int a, int n, int h, int p) {
        if (!in(a, 0, 199) || !in(n, 0, 15) || !in(p, 0, 15)) {
            return refusal(REFUSED_ARGUMENT);
        }
        State then = new State(now);
        if (!then.fee(a, p) || !in(h, then.proved[n] + 1, then.height)) {
            return refusal(REFUSED_STATE);
        }
        int before = then.burnt;
        then.proved[n] = h;
        then.jailed[n] = true;
        for (int owner = 0; owner < 200; owner++) {
            int quarter = then.bond(owner, n) / 4;
            then.setBond(owner, n, then.bond(owner, n) - quarter);
            then.burnt += quarter;
        }
        now = then;
        return "" + (now.burnt - before);
    }

    private int gone() {
        now = new State(now);
        now.height++;
        int gone = 0;
        Iterator<int[]> each = now.returns.iterator();
        while (each.hasNext()) {
            int[] one = each.next();
            if (one[2] <= now.height) {
                now.balance[one[0]] += one[1];
                each.remove();
                gone++;
            }
        }
        return gone;
    }

    private String keptAs(int k) {
        if (!in(k, 0, 7)) {
            return "IndexOutOfBoundsException";
        }
        kept[k] = new State(now);
        return "0";
    }

    private String backTo(int k) {
        if (!in(k, 0, 7)) {
            return "IndexOutOfBoundsException";
        }
        now = new State(kept[k]);
        return "" + now.height;
    }

    private String ofAccount(int a, int what) {
        if (!in(a, 0, 199)) {
            return "IndexOutOfBoundsException";
        }
        if (!in(what, 0, 17)) {
            return refusal(REFUSED_ARGUMENT);
        }
        int returned = now.returns.stream().filter(one -> one[0] == a).mapToInt(one -> one[1]).sum();
        return "" + (what == 0 ? now.balance[a] : what == 17 ? returned : now.bond(a, what - 1));
    }

    private String summed(int what) {
        int jailed = 0;
        for (int n = 15; n >= 0; n--) {
            jailed = 2 * jailed + (now.jailed[n] ? 1 : 0);
        }
        switch (what) {
            case 16: return "" + jailed;
            case 17: return "" + now.burnt;
            case 18: return "" + now.returns.size();
            case 19: return "" + now.bonds.size();
            // Nothing comes from outside and nothing goes there: 200 times 1000 and 16 times 100.
            case 20: return "201600";
            case 21: return "" + now.height;
            default: return in(what, 0, 15) ? "" + now.power(what) : refusal(REFUSED_ARGUMENT);
        }
    }

    private String proposed(int h, int r) {
        if (!in(h, 0, 1000000) || !in(r, 0, 1000000)) {
            return refusal(REFUSED_ARGUMENT);
        }
        List<Integer> units = new ArrayList<>();
        for (int n = 0; n < 16; n++) {
            for (int i = now.power(n); i > 0; i--) {
                units.add(n);
            }
        }
        return units.isEmpty() ? "-1" : "" + units.get((int) ((131L * h + 307L * r) % units.size()));
    }

    private int shared(int nodes) {
        int theirs = 0;
        int all = 0;
        for (int n = 0; n < 16; n++) {
            all += now.power(n);
            theirs += (nodes & 1 << n) != 0 ? now.power(n) : 0;
        }
        return 3 * theirs > 2 * all ? 2 : 3 * theirs > all ? 1 : 0;
    }

    private static final class State {
        final int[] balance;
        final TreeMap<Integer, Integer> bonds;
        final List<int[]> returns;
        final boolean[] jailed;
        final int[] proved;
        int height;
        int burnt;

        State() {
            balance = new int[200];
            java.util.Arrays.fill(balance, 1000);
            bonds = new TreeMap<>();
            for (int n = 0; n < 16; n++) {
                bonds.put(16 * n + n, 100);
            }
            returns = new ArrayList<>();
            jailed = new boolean[16];
            proved = new int[16];
        }

        State(State other) {
            balance = other.balance.clone();
            bonds = new TreeMap<>(other.bonds);
            returns = new ArrayList<>(other.returns);
            jailed = other.jailed.clone();
            proved = other.proved.clone();
            height = other.height;
            burnt = other.burnt;
        }

        boolean fee(int a, int p) {
            if (balance[a] == 0) {
                return false;
            }
            balance[a]--;
            balance[p]++;
            return true;
        }

        int bond(int a, int n) {
            return bonds.getOrDefault(16 * a + n, 0);
        }

        void setBond(int a, int n, int v) {
            if (v == 0) {
                bonds.remove(16 * a + n);
            } else {
                bonds.put(16 * a + n, v);
            }
        }

        int power(int n) {
            int power = 0;
            for (int a = 0; a < 200 && !jailed[n]; a++) {
                power += bond(a, n);
            }
            return power;
        }

        Integer paid(int a, int b, int v) {
            if (balance[a] < v) {
                return null;
            }
            balance[a] -= v;
            balance[b] += v;
            return balance[a];
        }

        Integer bonded(int a, int n, int v) {
            if (balance[a] < v) {
                return null;
            }
            balance[a] -= v;
            setBond(a, n, bond(a, n) + v);
            return bonds.size() > 96 ? null : (Integer) bond(a, n);
        }

        Integer unbonded(int a, int n, int v) {
            if (bond(a, n) < v || returns.size() == 32) {
                return null;
            }
            setBond(a, n, bond(a, n) - v);
            returns.add(new int[] {a, v, height + 4});
            return returns.size();
        }
    }
}
