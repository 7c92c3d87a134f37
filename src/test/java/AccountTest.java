/** Promise 10. */
public final class AccountTest {
    public static void main(String[] args) {
        Checks checks = new Checks();
        ordinary(checks);
        everyNode(checks);
        everyAccount(checks);
        without(checks);
        accounts(checks);
        things(checks);
        both(checks);
        nothingChanges(checks);
        checks.end();
    }

    private static void ordinary(Checks checks) {
        StakeLedger x = new StakeLedger();
        x.bond(199, 0, 5, 0);
        x.bond(199, 15, 6, 0);
        x.unbond(199, 15, 2, 0);
        x.unbond(199, 0, 1, 0);
        x.unbond(7, 7, 50, 0);
        checks.due("account(199, 0)", x.account(199, 0), 985);
        checks.due("account(199, 1)", x.account(199, 1), 4);
        checks.due("account(199, 2)", x.account(199, 2), 0);
        checks.due("account(199, 16)", x.account(199, 16), 4);
        checks.due("account(199, 17)", x.account(199, 17), 3);
        checks.due("account(7, 17)", x.account(7, 17), 50);
        checks.due("account(8, 17)", x.account(8, 17), 0);
        checks.due("account(0, 0)", x.account(0, 0), 1005);
        checks.due("account(0, 1)", x.account(0, 1), 100);
    }

    /** "1 to 16: BOND with NODES 0 to 15", whether the node is jailed or not. */
    private static void everyNode(Checks checks) {
        StakeLedger x = new StakeLedger();
        for (int n = 0; n < 16; n++) {
            x.bond(40, n, n + 1, 0);
        }
        x.next();
        x.prove(50, 3, 1, 0);
        for (int n = 0; n < 16; n++) {
            checks.due("account(40, " + (n + 1) + ")", x.account(40, n + 1), n == 3 ? 3 : n + 1);
        }
    }

    private static void everyAccount(Checks checks) {
        StakeLedger x = new StakeLedger();
        for (int a = 0; a < 200; a++) {
            x.pay(a, a, 1, 0);
            checks.due("account(" + a + ", 0)", x.account(a, 0), a == 0 ? 1000 : 999);
        }
        checks.due("account(0, 0)", x.account(0, 0), 1199);
    }

    /** "(0 without)", and 0 of what there is nothing of. */
    private static void without(Checks checks) {
        StakeLedger x = new StakeLedger();
        SetUp.unbondAll(x);
        SetUp.nextTimes(x, 4);
        SetUp.drain(x, 30);
        for (int n = 0; n < 16; n++) {
            checks.due("account(" + n + ", " + (n + 1) + ")", x.account(n, n + 1), 0);
            checks.due("account(" + n + ", 17)", x.account(n, 17), 0);
        }
        checks.due("account(30, 0)", x.account(30, 0), 0);
    }

    /** "IndexOutOfBoundsException if there is no ACCOUNT a". */
    private static void accounts(Checks checks) {
        checks.badIndex("account(-1, 0)", x -> x.account(-1, 0));
        checks.badIndex("account(200, 0)", x -> x.account(200, 0));
        checks.range("account(a, 0)", 0, 199, Checks.INDEX, (x, a) -> x.account(a, 0));
        checks.range("account(a, 1)", 0, 199, Checks.INDEX, (x, a) -> x.account(a, 1));
        checks.range("account(a, 16)", 0, 199, Checks.INDEX, (x, a) -> x.account(a, 16));
        checks.range("account(a, 17)", 0, 199, Checks.INDEX, (x, a) -> x.account(a, 17));
    }

    /** "IllegalArgumentException for others." */
    private static void things(Checks checks) {
        checks.badArgument("account(0, -1)", x -> x.account(0, -1));
        checks.badArgument("account(0, 18)", x -> x.account(0, 18));
        checks.range("account(0, what)", 0, 17, Checks.ARGUMENT, (x, what) -> x.account(0, what));
        checks.range("account(199, what)", 0, 17, Checks.ARGUMENT, (x, what) -> x.account(199, what));
    }

    /** Of the two that hold the one that stands first behind throws. */
    private static void both(Checks checks) {
        int[] noAccounts = {-1, 200, Integer.MIN_VALUE, Integer.MAX_VALUE};
        int[] noThings = {-1, 18, Integer.MIN_VALUE, Integer.MAX_VALUE};
        for (int a : noAccounts) {
            for (int what : noThings) {
                checks.badIndex("account(" + a + ", " + what + ")", x -> x.account(a, what));
            }
        }
    }

    private static void nothingChanges(Checks checks) {
        checks.same("after account", x -> {
            SetUp.busy(x);
            for (int what = 0; what <= 17; what++) {
                x.account(0, what);
                x.account(4, what);
            }
        }, SetUp::busy);
    }
}
