/** Promise 3. */
public final class BondTest {
    public static void main(String[] args) {
        Checks checks = new Checks();
        newAndGrown(checks);
        allOfTheBalance(checks);
        jailedNode(checks);
        fullRow(checks);
        wrongArguments(checks);
        refusals(checks);
        checks.end();
    }

    private static void newAndGrown(Checks checks) {
        StakeLedger x = new StakeLedger();
        checks.due("bond(20, 3, 40, 5)", x.bond(20, 3, 40, 5), 40);
        checks.due("bond(20, 3, 2, 5)", x.bond(20, 3, 2, 5), 42);
        checks.due("bond(20, 4, 1, 5)", x.bond(20, 4, 1, 5), 1);
        checks.due("bond(3, 3, 7, 5)", x.bond(3, 3, 7, 5), 107);
        checks.due("account(20, 4)", x.account(20, 4), 42);
        checks.due("account(20, 5)", x.account(20, 5), 1);
        checks.due("account(20, 0)", x.account(20, 0), 954);
        checks.due("account(3, 0)", x.account(3, 0), 992);
        checks.due("account(5, 0)", x.account(5, 0), 1004);
        checks.due("sum(3)", x.sum(3), 149);
        checks.due("sum(4)", x.sum(4), 101);
        checks.due("sum(19)", x.sum(19), 18);
        checks.due("sum(20)", x.sum(20), 201600);
    }

    private static void allOfTheBalance(Checks checks) {
        StakeLedger x = new StakeLedger();
        checks.due("bond(199, 15, 999, 15)", x.bond(199, 15, 999, 15), 999);
        checks.due("bond(6, 0, 1000, 6)", x.bond(6, 0, 1000, 6), 1000);
        checks.due("account(199, 0)", x.account(199, 0), 0);
        checks.due("account(6, 0)", x.account(6, 0), 0);
        checks.due("account(15, 0)", x.account(15, 0), 1001);
    }

    private static void jailedNode(Checks checks) {
        StakeLedger x = new StakeLedger();
        SetUp.proveAll(x);
        checks.due("bond(20, 3, 40, 5) with a jailed node", x.bond(20, 3, 40, 5), 40);
        checks.due("sum(3)", x.sum(3), 0);
        checks.due("free(20, 3, 5)", x.free(20, 3, 5), 115);
    }

    private static void fullRow(Checks checks) {
        StakeLedger x = new StakeLedger();
        SetUp.fillBonds(x);
        checks.due("sum(19)", x.sum(19), 96);
        checks.due("one of the 96 grows: bond(109, 15, 2, 0)", x.bond(109, 15, 2, 0), 7);
        checks.due("one of the 96 grows: bond(0, 0, 2, 0)", x.bond(0, 0, 2, 0), 102);
        checks.due("sum(19)", x.sum(19), 96);
        checks.due("unbond(30, 0, 5, 0)", x.unbond(30, 0, 5, 0), 1);
        checks.due("sum(19)", x.sum(19), 95);
        checks.due("there is a place again: bond(150, 1, 6, 0)", x.bond(150, 1, 6, 0), 6);
        checks.due("account(109, 16)", x.account(109, 16), 7);
        checks.due("account(30, 1)", x.account(30, 1), 0);
        checks.due("account(150, 2)", x.account(150, 2), 6);
        checks.due("sum(19)", x.sum(19), 96);
        checks.badState("bond(150, 1, 5, 0) beside 96", SetUp::fillBonds, y -> y.bond(150, 1, 5, 0));
        checks.badState("bond(30, 1, 5, 0) beside 96", SetUp::fillBonds, y -> y.bond(30, 1, 5, 0));
    }

    private static void wrongArguments(Checks checks) {
        checks.badArgument("bond(-1, 1, 5, 0)", x -> x.bond(-1, 1, 5, 0));
        checks.badArgument("bond(200, 1, 5, 0)", x -> x.bond(200, 1, 5, 0));
        checks.badArgument("bond(0, -1, 5, 0)", x -> x.bond(0, -1, 5, 0));
        checks.badArgument("bond(0, 16, 5, 0)", x -> x.bond(0, 16, 5, 0));
        checks.badArgument("bond(0, 1, 5, -1)", x -> x.bond(0, 1, 5, -1));
        checks.badArgument("bond(0, 1, 5, 16)", x -> x.bond(0, 1, 5, 16));
        checks.badArgument("bond(0, 1, 0, 0)", x -> x.bond(0, 1, 0, 0));
        checks.badArgument("bond(0, 1, -1, 0)", x -> x.bond(0, 1, -1, 0));
        checks.badArgument("bond(0, 1, 1000001, 0)", x -> x.bond(0, 1, 1000001, 0));
    }

    private static void refusals(Checks checks) {
        checks.badState("bond(20, 3, 1000, 5)", Checks.NOTHING, x -> x.bond(20, 3, 1000, 5));
        checks.badState("bond(5, 3, 1001, 5)", Checks.NOTHING, x -> x.bond(5, 3, 1001, 5));
        checks.badState("bond(20, 3, 1000000, 5)", Checks.NOTHING, x -> x.bond(20, 3, 1000000, 5));
        checks.badState("bond(4, 3, 1, 4) with 0", x -> SetUp.drain(x, 4), x -> x.bond(4, 3, 1, 4));
        checks.badState("bond(20, 3, 1, 5) with 1", x -> x.pay(20, 30, 998, 5), x -> x.bond(20, 3, 1, 5));
    }
}
