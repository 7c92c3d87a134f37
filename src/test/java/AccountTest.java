/** Promise 10. */
public final class AccountTest {
    public static void main(String[] args) {
        Checks checks = new Checks();
        ordinary(checks);
        everyNode(checks);
        wrongInputs(checks);
        checks.end();
    }

    private static void ordinary(Checks checks) {
        StakeLedger x = new StakeLedger();
        x.bond(199, 0, 5, 0);
        x.bond(199, 15, 6, 0);
        x.unbond(199, 15, 2, 0);
        x.unbond(199, 0, 1, 0);
        x.unbond(7, 7, 50, 0);
        checks.due("account(199, 0)", x.account(199, 0), 985);
        checks.due("account(199, 1)", x.account(199, 1), 4);
        checks.due("account(199, 2)", x.account(199, 2), 0);
        checks.due("account(199, 16)", x.account(199, 16), 4);
        checks.due("account(199, 17)", x.account(199, 17), 3);
        checks.due("account(7, 17)", x.account(7, 17), 50);
        checks.due("account(8, 17)", x.account(8, 17), 0);
        checks.due("account(0, 0)", x.account(0, 0), 1005);
        checks.due("account(0, 1)", x.account(0, 1), 100);
    }

    private static void everyNode(Checks checks) {
        StakeLedger x = new StakeLedger();
        for (int n = 0; n < 16; n++) {
            x.bond(40, n, n + 1, 0);
        }
        x.next();
        x.prove(50, 3, 1, 0);
        for (int n = 0; n < 16; n++) {
            checks.due("account(40, " + (n + 1) + ")", x.account(40, n + 1), n == 3 ? 3 : n + 1);
        }
    }

    private static void wrongInputs(Checks checks) {
        checks.badIndex("account(-1, 0)", x -> x.account(-1, 0));
        checks.badIndex("account(200, 0)", x -> x.account(200, 0));
        checks.badIndex("account(200, 5)", x -> x.account(200, 5));
        checks.badIndex("account(200, 17)", x -> x.account(200, 17));
        checks.badIndex("account(MAX, MAX)", x -> x.account(Integer.MAX_VALUE, Integer.MAX_VALUE));
        checks.badArgument("account(0, -1)", x -> x.account(0, -1));
        checks.badArgument("account(0, 18)", x -> x.account(0, 18));
        checks.badArgument("account(199, MIN)", x -> x.account(199, Integer.MIN_VALUE));
        checks.badArgument("account(199, MAX)", x -> x.account(199, Integer.MAX_VALUE));
    }
}
