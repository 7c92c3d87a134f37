/** Promise 5. */
public final class FreeTest {
    public static void main(String[] args) {
        Checks checks = new Checks();
        oneOfMany(checks);
        everyNode(checks);
        nodeWithoutBonds(checks);
        onlyTheJailIsLeft(checks);
        accountA(checks);
        feeTaker(checks);
        node(checks);
        noFee(checks);
        notJailed(checks);
        checks.end();
    }

    private static void oneOfMany(Checks checks) {
        StakeLedger x = new StakeLedger();
        SetUp.proveAll(x);
        checks.due("sum(16)", x.sum(16), 65535);
        checks.due("free(20, 3, 5)", x.free(20, 3, 5), 75);
        checks.due("sum(16)", x.sum(16), 65535 - 8);
        checks.due("sum(3)", x.sum(3), 75);
        checks.due("account(20, 0)", x.account(20, 0), 999);
        checks.due("account(5, 0)", x.account(5, 0), 1001);
        checks.due("free(199, 15, 15)", x.free(199, 15, 15), 75);
        checks.due("free(0, 0, 0)", x.free(0, 0, 0), 75);
        checks.due("sum(16)", x.sum(16), 32766 - 8);
        checks.due("account(0, 0)", x.account(0, 0), 1016);
    }

    private static void everyNode(Checks checks) {
        StakeLedger x = new StakeLedger();
        SetUp.proveAll(x);
        int left = 65535;
        for (int n = 0; n < 16; n++) {
            checks.due("free(20, " + n + ", 5)", x.free(20, n, 5), 75);
            left -= 1 << n;
            checks.due("sum(16)", x.sum(16), left);
        }
    }

    private static void nodeWithoutBonds(Checks checks) {
        StakeLedger x = new StakeLedger();
        SetUp.proveAll(x);
        x.unbond(3, 3, 75, 5);
        checks.due("free(20, 3, 5)", x.free(20, 3, 5), 0);
        checks.due("sum(16)", x.sum(16), 65535 - 8);
    }

    /** What was burnt stays so, and so does the proved height. */
    private static void onlyTheJailIsLeft(Checks checks) {
        StakeLedger x = new StakeLedger();
        SetUp.proveAll(x);
        x.free(20, 3, 5);
        checks.due("sum(17)", x.sum(17), 400);
        checks.due("account(3, 4)", x.account(3, 4), 75);
        checks.badState("prove(20, 3, 1, 5) after free", y -> {
            SetUp.proveAll(y);
            y.free(20, 3, 5);
        }, y -> y.prove(20, 3, 1, 5));
    }

    /** "IllegalArgumentException if a, p or n is none": a. Nodes 0 and 15 are jailed when busy. */
    private static void accountA(Checks checks) {
        checks.badArgument("free(-1, 0, 0)", x -> x.free(-1, 0, 0));
        checks.badArgument("free(200, 0, 0)", x -> x.free(200, 0, 0));
        checks.range("free(a, 0, 0)", 0, 199, Checks.ARGUMENT, (x, a) -> x.free(a, 0, 0));
    }

    /** "IllegalArgumentException if a, p or n is none": p. */
    private static void feeTaker(Checks checks) {
        checks.badArgument("free(1, 0, -1)", x -> x.free(1, 0, -1));
        checks.badArgument("free(1, 0, 16)", x -> x.free(1, 0, 16));
        checks.badArgument("free(1, 0, 199)", x -> x.free(1, 0, 199));
        checks.range("free(1, 0, p)", 0, 15, Checks.ARGUMENT, (x, p) -> x.free(1, 0, p));
    }

    /** "IllegalArgumentException if a, p or n is none": n. */
    private static void node(Checks checks) {
        checks.badArgument("free(1, -1, 0)", x -> x.free(1, -1, 0));
        checks.badArgument("free(1, 16, 0)", x -> x.free(1, 16, 0));
        checks.badArgument("a shift by 32 is none at all: free(1, 32, 0)", x -> x.free(1, 32, 0));
        checks.range("free(1, n, 0)", 0, 15, Checks.ARGUMENT, (x, n) -> x.free(1, n, 0));
    }

    /** "IllegalStateException if there is no fee". */
    private static void noFee(Checks checks) {
        checks.badState("free(20, 3, 5) with 0", x -> provedAndLeft(x, 20, 0), x -> x.free(20, 3, 5));
        checks.badState("free(4, 3, 4) with 0", x -> provedAndLeft(x, 4, 0), x -> x.free(4, 3, 4));
        checks.taken("free(20, 3, 5) with 1", 75, x -> provedAndLeft(x, 20, 1), x -> x.free(20, 3, 5));
        checks.taken("free(4, 3, 4) with 1", 75, x -> provedAndLeft(x, 4, 1), x -> x.free(4, 3, 4));
        StakeLedger x = new StakeLedger();
        provedAndLeft(x, 20, 1);
        x.free(20, 3, 5);
        checks.due("account(20, 0)", x.account(20, 0), 0);
        SetUp.leave(x, 4, 1);
        x.free(4, 4, 4);
        checks.due("account(4, 0)", x.account(4, 0), 1);
    }

    private static void provedAndLeft(StakeLedger x, int a, int balance) {
        SetUp.proveAll(x);
        SetUp.leave(x, a, balance);
    }

    /** "or it is not JAILED". */
    private static void notJailed(Checks checks) {
        checks.badState("free(20, 3, 5) of a free node", Checks.NOTHING, x -> x.free(20, 3, 5));
        checks.badState("free(20, 3, 3) of a free node", Checks.NOTHING, x -> x.free(20, 3, 3));
        checks.badState("free(20, 3, 5) twice", x -> {
            SetUp.proveAll(x);
            x.free(20, 3, 5);
        }, x -> x.free(20, 3, 5));
        for (int n = 0; n < 16; n++) {
            int jailed = n;
            int other = (n + 1) % 16;
            checks.refused("free(20, " + other + ", 5) while " + n + " is jailed", Checks.STATE, x -> {
                x.next();
                x.prove(20, jailed, 1, 5);
            }, x -> x.free(20, other, 5));
        }
    }
}
