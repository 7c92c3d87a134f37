/** Promise 2. */
public final class PayTest {
    public static void main(String[] args) {
        Checks checks = new Checks();
        threeAccounts(checks);
        oneAccountTwice(checks);
        allThereIs(checks);
        accountA(checks);
        accountB(checks);
        feeTaker(checks);
        amount(checks);
        enough(checks);
        enoughWhenTheFeeComesBack(checks);
        checks.end();
    }

    private static void threeAccounts(Checks checks) {
        StakeLedger x = new StakeLedger();
        checks.due("pay(20, 30, 100, 5)", x.pay(20, 30, 100, 5), 899);
        checks.due("account(20, 0)", x.account(20, 0), 899);
        checks.due("account(30, 0)", x.account(30, 0), 1100);
        checks.due("account(5, 0)", x.account(5, 0), 1001);
        checks.due("account(6, 0)", x.account(6, 0), 1000);
        checks.due("pay(20, 30, 1, 5)", x.pay(20, 30, 1, 5), 897);
        checks.due("sum(20)", x.sum(20), 201600);
        checks.due("sum(21)", x.sum(21), 0);
    }

    private static void oneAccountTwice(Checks checks) {
        StakeLedger x = new StakeLedger();
        checks.due("pay(7, 7, 1000, 7)", x.pay(7, 7, 1000, 7), 1000);
        checks.due("pay(7, 7, 999, 8)", x.pay(7, 7, 999, 8), 999);
        checks.due("account(8, 0)", x.account(8, 0), 1001);
        checks.due("pay(20, 9, 10, 9)", x.pay(20, 9, 10, 9), 989);
        checks.due("account(9, 0)", x.account(9, 0), 1011);
        checks.due("pay(9, 20, 10, 9)", x.pay(9, 20, 10, 9), 1001);
        checks.due("account(20, 0)", x.account(20, 0), 999);
    }

    /** The most that one account can pay: all but the bonds. */
    private static void allThereIs(Checks checks) {
        StakeLedger x = new StakeLedger();
        for (int a = 1; a < 200; a++) {
            x.pay(a, 0, 999, 0);
        }
        checks.due("account(0, 0)", x.account(0, 0), 200000);
        checks.due("pay(0, 199, 199999, 1)", x.pay(0, 199, 199999, 1), 0);
        checks.due("account(199, 0)", x.account(199, 0), 199999);
        checks.due("account(1, 0)", x.account(1, 0), 1);
        checks.due("sum(20)", x.sum(20), 201600);
    }

    /** "IllegalArgumentException if a or b is no ACCOUNT": a. */
    private static void accountA(Checks checks) {
        checks.taken("pay(0, 1, 5, 1)", 994, Checks.NOTHING, x -> x.pay(0, 1, 5, 1));
        checks.taken("pay(199, 1, 5, 0)", 994, Checks.NOTHING, x -> x.pay(199, 1, 5, 0));
        checks.badArgument("pay(-1, 1, 5, 0)", x -> x.pay(-1, 1, 5, 0));
        checks.badArgument("pay(200, 1, 5, 0)", x -> x.pay(200, 1, 5, 0));
        checks.range("pay(a, 1, 5, 0)", 0, 199, Checks.ARGUMENT, (x, a) -> x.pay(a, 1, 5, 0));
    }

    /** "IllegalArgumentException if a or b is no ACCOUNT": b. */
    private static void accountB(Checks checks) {
        checks.badArgument("pay(1, -1, 5, 0)", x -> x.pay(1, -1, 5, 0));
        checks.badArgument("pay(1, 200, 5, 0)", x -> x.pay(1, 200, 5, 0));
        checks.range("pay(1, b, 5, 0)", 0, 199, Checks.ARGUMENT, (x, b) -> x.pay(1, b, 5, 0));
        StakeLedger x = new StakeLedger();
        x.pay(1, 0, 5, 2);
        x.pay(1, 199, 6, 2);
        checks.due("account(0, 0)", x.account(0, 0), 1005);
        checks.due("account(199, 0)", x.account(199, 0), 1006);
    }

    /** "p no ACCOUNT 0 to 15". */
    private static void feeTaker(Checks checks) {
        checks.badArgument("pay(20, 1, 5, -1)", x -> x.pay(20, 1, 5, -1));
        checks.badArgument("pay(20, 1, 5, 16)", x -> x.pay(20, 1, 5, 16));
        checks.badArgument("pay(20, 1, 5, 20)", x -> x.pay(20, 1, 5, 20));
        checks.badArgument("pay(20, 1, 5, 199)", x -> x.pay(20, 1, 5, 199));
        checks.range("pay(20, 1, 5, p)", 0, 15, Checks.ARGUMENT, (x, p) -> x.pay(20, 1, 5, p));
        StakeLedger x = new StakeLedger();
        for (int p = 0; p < 16; p++) {
            x.pay(20, 30, 1, p);
            checks.due("account(" + p + ", 0)", x.account(p, 0), 1001);
        }
    }

    /** "or v not 1 to 1000000": nobody has 1000000, so that one is refused by the state. */
    private static void amount(Checks checks) {
        checks.taken("pay(20, 1, 1, 0)", 998, Checks.NOTHING, x -> x.pay(20, 1, 1, 0));
        checks.badState("pay(20, 1, 1000000, 0)", Checks.NOTHING, x -> x.pay(20, 1, 1000000, 0));
        checks.badArgument("pay(20, 1, 0, 0)", x -> x.pay(20, 1, 0, 0));
        checks.badArgument("pay(20, 1, -1, 0)", x -> x.pay(20, 1, -1, 0));
        checks.badArgument("pay(20, 1, 1000001, 0)", x -> x.pay(20, 1, 1000001, 0));
        checks.badArgument("pay(20, 1, MIN, 0)", x -> x.pay(20, 1, Integer.MIN_VALUE, 0));
        checks.badArgument("pay(20, 1, MAX, 0)", x -> x.pay(20, 1, Integer.MAX_VALUE, 0));
    }

    /** "IllegalStateException if BALANCE a is not enough": for the fee and v. */
    private static void enough(Checks checks) {
        checks.taken("pay(20, 30, 999, 5)", 0, Checks.NOTHING, x -> x.pay(20, 30, 999, 5));
        checks.badState("pay(20, 30, 1000, 5)", Checks.NOTHING, x -> x.pay(20, 30, 1000, 5));
        checks.badState("pay(20, 30, 1001, 5)", Checks.NOTHING, x -> x.pay(20, 30, 1001, 5));
        checks.badState("pay(20, 20, 1000, 5)", Checks.NOTHING, x -> x.pay(20, 20, 1000, 5));
        checks.badState("pay(20, 5, 1000, 5)", Checks.NOTHING, x -> x.pay(20, 5, 1000, 5));
        checks.taken("pay(20, 30, 1, 5) with 2", 0, x -> SetUp.leave(x, 20, 2), x -> x.pay(20, 30, 1, 5));
        checks.badState("pay(20, 30, 1, 5) with 1", x -> SetUp.leave(x, 20, 1), x -> x.pay(20, 30, 1, 5));
        checks.badState("pay(20, 30, 1, 5) with 0", x -> SetUp.drain(x, 20), x -> x.pay(20, 30, 1, 5));
        checks.badState("pay(20, 20, 1, 5) with 1", x -> SetUp.leave(x, 20, 1), x -> x.pay(20, 20, 1, 5));
    }

    /** "if that is a, all of the BALANCE is there for v". */
    private static void enoughWhenTheFeeComesBack(Checks checks) {
        checks.taken("pay(5, 30, 999, 5)", 1, Checks.NOTHING, x -> x.pay(5, 30, 999, 5));
        checks.taken("pay(5, 30, 1000, 5)", 0, Checks.NOTHING, x -> x.pay(5, 30, 1000, 5));
        checks.badState("pay(5, 30, 1001, 5)", Checks.NOTHING, x -> x.pay(5, 30, 1001, 5));
        checks.taken("pay(5, 5, 1000, 5)", 1000, Checks.NOTHING, x -> x.pay(5, 5, 1000, 5));
        checks.badState("pay(5, 5, 1001, 5)", Checks.NOTHING, x -> x.pay(5, 5, 1001, 5));
        checks.taken("pay(5, 30, 1, 5) with 1", 0, x -> SetUp.leave(x, 5, 1), x -> x.pay(5, 30, 1, 5));
        checks.badState("pay(5, 30, 2, 5) with 1", x -> SetUp.leave(x, 5, 1), x -> x.pay(5, 30, 2, 5));
        checks.badState("pay(5, 30, 1, 5) with 0", x -> SetUp.drain(x, 5), x -> x.pay(5, 30, 1, 5));
    }
}
