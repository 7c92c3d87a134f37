/** Promise 4. */
public final class UnbondTest {
    public static void main(String[] args) {
        Checks checks = new Checks();
        partAndAll(checks);
        feeAlone(checks);
        dueFourOn(checks);
        jailedNode(checks);
        gapInTheMiddle(checks);
        wrongArguments(checks);
        refusals(checks);
        checks.end();
    }

    private static void partAndAll(Checks checks) {
        StakeLedger x = new StakeLedger();
        checks.due("unbond(3, 3, 40, 5)", x.unbond(3, 3, 40, 5), 1);
        checks.due("account(3, 4)", x.account(3, 4), 60);
        checks.due("account(3, 17)", x.account(3, 17), 40);
        checks.due("account(3, 0)", x.account(3, 0), 999);
        checks.due("account(5, 0)", x.account(5, 0), 1001);
        checks.due("sum(3)", x.sum(3), 60);
        checks.due("sum(19)", x.sum(19), 16);
        checks.due("unbond(3, 3, 60, 5)", x.unbond(3, 3, 60, 5), 2);
        checks.due("account(3, 4)", x.account(3, 4), 0);
        checks.due("account(3, 17)", x.account(3, 17), 100);
        checks.due("sum(3)", x.sum(3), 0);
        checks.due("sum(18)", x.sum(18), 2);
        checks.due("sum(19)", x.sum(19), 15);
        checks.due("sum(20)", x.sum(20), 201600);
    }

    private static void feeAlone(Checks checks) {
        StakeLedger x = new StakeLedger();
        x.pay(3, 30, 998, 5);
        checks.due("with a balance of 1: unbond(3, 3, 100, 5)", x.unbond(3, 3, 100, 5), 1);
        checks.due("account(3, 0)", x.account(3, 0), 0);
        x.pay(4, 30, 999, 4);
        checks.due("the fee comes back: unbond(4, 4, 1, 4)", x.unbond(4, 4, 1, 4), 2);
        checks.due("account(4, 0)", x.account(4, 0), 1);
    }

    private static void dueFourOn(Checks checks) {
        StakeLedger x = new StakeLedger();
        SetUp.nextTimes(x, 7);
        x.unbond(3, 3, 10, 5);
        x.next();
        x.unbond(3, 3, 20, 5);
        SetUp.nextTimes(x, 2);
        checks.due("account(3, 17) at height 10", x.account(3, 17), 30);
        checks.due("next() to 11", x.next(), 1);
        checks.due("account(3, 17) at height 11", x.account(3, 17), 20);
        checks.due("account(3, 0) at height 11", x.account(3, 0), 1008);
        checks.due("next() to 12", x.next(), 1);
        checks.due("account(3, 17) at height 12", x.account(3, 17), 0);
    }

    private static void jailedNode(Checks checks) {
        StakeLedger x = new StakeLedger();
        SetUp.proveAll(x);
        checks.due("unbond(3, 3, 75, 5) from a jailed node", x.unbond(3, 3, 75, 5), 1);
        checks.due("sum(19)", x.sum(19), 15);
        checks.due("sum(20)", x.sum(20), 201600);
    }

    private static void gapInTheMiddle(Checks checks) {
        StakeLedger x = new StakeLedger();
        x.bond(20, 7, 11, 0);
        x.unbond(7, 7, 100, 0);
        for (int n = 0; n < 16; n++) {
            checks.due("account(" + n + ", " + (n + 1) + ")", x.account(n, n + 1), n == 7 ? 0 : 100);
        }
        checks.due("account(20, 8)", x.account(20, 8), 11);
        checks.due("bond(7, 7, 3, 0)", x.bond(7, 7, 3, 0), 3);
    }

    private static void wrongArguments(Checks checks) {
        checks.badArgument("unbond(-1, 0, 5, 0)", x -> x.unbond(-1, 0, 5, 0));
        checks.badArgument("unbond(200, 0, 5, 0)", x -> x.unbond(200, 0, 5, 0));
        checks.badArgument("unbond(0, -1, 5, 0)", x -> x.unbond(0, -1, 5, 0));
        checks.badArgument("unbond(0, 16, 5, 0)", x -> x.unbond(0, 16, 5, 0));
        checks.badArgument("unbond(0, 0, 5, -1)", x -> x.unbond(0, 0, 5, -1));
        checks.badArgument("unbond(0, 0, 5, 16)", x -> x.unbond(0, 0, 5, 16));
        checks.badArgument("unbond(0, 0, 0, 0)", x -> x.unbond(0, 0, 0, 0));
        checks.badArgument("unbond(0, 0, -1, 0)", x -> x.unbond(0, 0, -1, 0));
        checks.badArgument("unbond(0, 0, 1000001, 0)", x -> x.unbond(0, 0, 1000001, 0));
    }

    private static void refusals(Checks checks) {
        checks.badState("unbond(3, 3, 101, 5)", Checks.NOTHING, x -> x.unbond(3, 3, 101, 5));
        checks.badState("unbond(3, 3, 1000000, 5)", Checks.NOTHING, x -> x.unbond(3, 3, 1000000, 5));
        checks.badState("unbond(3, 4, 1, 5)", Checks.NOTHING, x -> x.unbond(3, 4, 1, 5));
        checks.badState("unbond(20, 3, 1, 5)", Checks.NOTHING, x -> x.unbond(20, 3, 1, 5));
        checks.badState("unbond(3, 3, 1, 5) with 0", x -> SetUp.drain(x, 3), x -> x.unbond(3, 3, 1, 5));
        checks.badState("unbond(3, 3, 1, 3) with 0", x -> SetUp.drain(x, 3), x -> x.unbond(3, 3, 1, 3));
        checks.badState("unbond(0, 0, 1, 0) beside 32", SetUp::fillReturns, x -> x.unbond(0, 0, 1, 0));
    }
}
