/** Promise 3. */
public final class BondTest {
    public static void main(String[] args) {
        Checks checks = new Checks();
        newAndGrown(checks);
        everyNode(checks);
        jailedNode(checks);
        accountA(checks);
        node(checks);
        feeTaker(checks);
        amount(checks);
        enough(checks);
        enoughWhenTheFeeComesBack(checks);
        ninetySix(checks);
        ninetySixOthers(checks);
        placeAgain(checks);
        checks.end();
    }

    /** "the BOND of a with NODE n (which comes, if there is none): that BOND then". */
    private static void newAndGrown(Checks checks) {
        StakeLedger x = new StakeLedger();
        checks.due("bond(20, 3, 40, 5)", x.bond(20, 3, 40, 5), 40);
        checks.due("bond(20, 3, 2, 5)", x.bond(20, 3, 2, 5), 42);
        checks.due("bond(20, 4, 1, 5)", x.bond(20, 4, 1, 5), 1);
        checks.due("bond(3, 3, 7, 5)", x.bond(3, 3, 7, 5), 107);
        checks.due("account(20, 4)", x.account(20, 4), 42);
        checks.due("account(20, 5)", x.account(20, 5), 1);
        checks.due("account(20, 0)", x.account(20, 0), 954);
        checks.due("account(3, 0)", x.account(3, 0), 992);
        checks.due("account(5, 0)", x.account(5, 0), 1004);
        checks.due("sum(3)", x.sum(3), 149);
        checks.due("sum(4)", x.sum(4), 101);
        checks.due("sum(19)", x.sum(19), 18);
        checks.due("sum(20)", x.sum(20), 201600);
    }

    private static void everyNode(Checks checks) {
        StakeLedger x = new StakeLedger();
        for (int n = 0; n < 16; n++) {
            checks.due("bond(20, " + n + ", 2, 0)", x.bond(20, n, 2, 0), 2);
            checks.due("bond(" + n + ", " + n + ", 3, 15)", x.bond(n, n, 3, 15), 103);
            checks.due("sum(" + n + ")", x.sum(n), 105);
            checks.due("sum(19)", x.sum(19), 17 + n);
        }
    }

    private static void jailedNode(Checks checks) {
        StakeLedger x = new StakeLedger();
        SetUp.proveAll(x);
        checks.due("bond(20, 3, 40, 5) with a jailed node", x.bond(20, 3, 40, 5), 40);
        checks.due("sum(3)", x.sum(3), 0);
        checks.due("free(20, 3, 5)", x.free(20, 3, 5), 115);
    }

    /** "Thrown as by pay": a is no ACCOUNT. */
    private static void accountA(Checks checks) {
        checks.badArgument("bond(-1, 1, 5, 0)", x -> x.bond(-1, 1, 5, 0));
        checks.badArgument("bond(200, 1, 5, 0)", x -> x.bond(200, 1, 5, 0));
        checks.range("bond(a, 1, 5, 0)", 0, 199, Checks.ARGUMENT, (x, a) -> x.bond(a, 1, 5, 0));
    }

    /** "n no NODE": 16 is an ACCOUNT, and that is not enough. */
    private static void node(Checks checks) {
        checks.badArgument("bond(1, -1, 5, 0)", x -> x.bond(1, -1, 5, 0));
        checks.badArgument("bond(1, 16, 5, 0)", x -> x.bond(1, 16, 5, 0));
        checks.badArgument("bond(1, 199, 5, 0)", x -> x.bond(1, 199, 5, 0));
        checks.range("bond(1, n, 5, 0)", 0, 15, Checks.ARGUMENT, (x, n) -> x.bond(1, n, 5, 0));
    }

    /** "Thrown as by pay": p is no ACCOUNT 0 to 15. */
    private static void feeTaker(Checks checks) {
        checks.badArgument("bond(1, 1, 5, -1)", x -> x.bond(1, 1, 5, -1));
        checks.badArgument("bond(1, 1, 5, 16)", x -> x.bond(1, 1, 5, 16));
        checks.badArgument("bond(1, 1, 5, 199)", x -> x.bond(1, 1, 5, 199));
        checks.range("bond(1, 1, 5, p)", 0, 15, Checks.ARGUMENT, (x, p) -> x.bond(1, 1, 5, p));
    }

    /** "Thrown as by pay": v is not 1 to 1000000. */
    private static void amount(Checks checks) {
        checks.taken("bond(20, 1, 1, 0)", 1, Checks.NOTHING, x -> x.bond(20, 1, 1, 0));
        checks.badState("bond(20, 1, 1000000, 0)", Checks.NOTHING, x -> x.bond(20, 1, 1000000, 0));
        checks.badArgument("bond(1, 1, 0, 0)", x -> x.bond(1, 1, 0, 0));
        checks.badArgument("bond(1, 1, -1, 0)", x -> x.bond(1, 1, -1, 0));
        checks.badArgument("bond(1, 1, 1000001, 0)", x -> x.bond(1, 1, 1000001, 0));
        checks.badArgument("bond(1, 1, MIN, 0)", x -> x.bond(1, 1, Integer.MIN_VALUE, 0));
        checks.badArgument("bond(1, 1, MAX, 0)", x -> x.bond(1, 1, Integer.MAX_VALUE, 0));
    }

    /** "Thrown as by pay": BALANCE a is not enough for the fee and v. */
    private static void enough(Checks checks) {
        checks.taken("bond(20, 3, 999, 5)", 999, Checks.NOTHING, x -> x.bond(20, 3, 999, 5));
        checks.badState("bond(20, 3, 1000, 5)", Checks.NOTHING, x -> x.bond(20, 3, 1000, 5));
        checks.badState("bond(8, 8, 1000, 5)", Checks.NOTHING, x -> x.bond(8, 8, 1000, 5));
        checks.taken("bond(20, 3, 1, 5) with 2", 1, x -> SetUp.leave(x, 20, 2), x -> x.bond(20, 3, 1, 5));
        checks.badState("bond(20, 3, 1, 5) with 1", x -> SetUp.leave(x, 20, 1), x -> x.bond(20, 3, 1, 5));
        checks.badState("bond(20, 3, 1, 5) with 0", x -> SetUp.drain(x, 20), x -> x.bond(20, 3, 1, 5));
        StakeLedger x = new StakeLedger();
        x.bond(199, 15, 999, 15);
        checks.due("account(199, 0)", x.account(199, 0), 0);
        checks.due("account(199, 16)", x.account(199, 16), 999);
        checks.due("account(15, 0)", x.account(15, 0), 1001);
    }

    /** "if that is a, all of the BALANCE is there for v". */
    private static void enoughWhenTheFeeComesBack(Checks checks) {
        checks.taken("bond(5, 3, 1000, 5)", 1000, Checks.NOTHING, x -> x.bond(5, 3, 1000, 5));
        checks.badState("bond(5, 3, 1001, 5)", Checks.NOTHING, x -> x.bond(5, 3, 1001, 5));
        checks.taken("bond(5, 5, 1000, 5)", 1100, Checks.NOTHING, x -> x.bond(5, 5, 1000, 5));
        checks.taken("bond(5, 3, 1, 5) with 1", 1, x -> SetUp.leave(x, 5, 1), x -> x.bond(5, 3, 1, 5));
        checks.badState("bond(5, 3, 2, 5) with 1", x -> SetUp.leave(x, 5, 1), x -> x.bond(5, 3, 2, 5));
        checks.badState("bond(5, 3, 1, 5) with 0", x -> SetUp.drain(x, 5), x -> x.bond(5, 3, 1, 5));
        StakeLedger x = new StakeLedger();
        x.bond(5, 3, 1000, 5);
        checks.due("account(5, 0)", x.account(5, 0), 0);
    }

    /** 95 others do not refuse the 96th, whether it comes or is there. */
    private static void ninetySix(Checks checks) {
        StakeLedger x = new StakeLedger();
        for (int i = 0; i < 80; i++) {
            checks.due("bond(" + (30 + i) + ", " + i % 16 + ", 5, 0)", x.bond(30 + i, i % 16, 5, 0), 5);
            checks.due("sum(19)", x.sum(19), 17 + i);
        }
        checks.due("the last of 96 grows: bond(109, 15, 2, 0)", x.bond(109, 15, 2, 0), 7);
        checks.due("the first of 96 grows: bond(0, 0, 2, 0)", x.bond(0, 0, 2, 0), 102);
        checks.due("one of 96 grows: bond(60, 14, 2, 0)", x.bond(60, 14, 2, 0), 7);
        checks.due("sum(19)", x.sum(19), 96);
        checks.due("sum(20)", x.sum(20), 201600);
    }

    /** "IllegalStateException too if there are 96 others." */
    private static void ninetySixOthers(Checks checks) {
        checks.badState("bond(150, 1, 5, 0) beside 96", SetUp::fillBonds, x -> x.bond(150, 1, 5, 0));
        checks.badState("bond(150, 1, 5, 1) beside 96", SetUp::fillBonds, x -> x.bond(150, 1, 5, 1));
        checks.badState("bond(1, 0, 1, 1) beside 96", SetUp::fillBonds, x -> x.bond(1, 0, 1, 1));
        checks.badState("its bond is with another node: bond(30, 1, 5, 0)", SetUp::fillBonds,
            x -> x.bond(30, 1, 5, 0));
        checks.badState("another's bond is with that node: bond(31, 0, 5, 0)", SetUp::fillBonds,
            x -> x.bond(31, 0, 5, 0));
        checks.badState("bond(150, 1, 5, 0) beside 96 of which some are with jailed nodes", x -> {
            SetUp.fillBonds(x);
            SetUp.proveAll(x);
        }, x -> x.bond(150, 1, 5, 0));
    }

    private static void placeAgain(Checks checks) {
        StakeLedger x = new StakeLedger();
        SetUp.fillBonds(x);
        x.unbond(30, 0, 4, 0);
        checks.due("sum(19) with 1 left", x.sum(19), 96);
        checks.due("bond(150, 1, 6, 0)", Checks.answer(x, y -> y.bond(150, 1, 6, 0)),
            "throws.IllegalStateException");
        x.unbond(30, 0, 1, 0);
        checks.due("sum(19)", x.sum(19), 95);
        checks.due("there is a place again: bond(150, 1, 6, 0)", x.bond(150, 1, 6, 0), 6);
        checks.due("account(109, 16)", x.account(109, 16), 5);
        checks.due("account(30, 1)", x.account(30, 1), 0);
        checks.due("account(150, 2)", x.account(150, 2), 6);
        checks.due("sum(19)", x.sum(19), 96);
    }
}
