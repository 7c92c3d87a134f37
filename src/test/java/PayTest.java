/** Promise 2, and what the terms say of the fee. */
public final class PayTest {
    public static void main(String[] args) {
        Checks checks = new Checks();
        threeAccounts(checks);
        allOfTheBalance(checks);
        oneAccountTwice(checks);
        lastAccounts(checks);
        wrongArguments(checks);
        notEnough(checks);
        checks.end();
    }

    private static void threeAccounts(Checks checks) {
        StakeLedger x = new StakeLedger();
        checks.due("pay(20, 30, 100, 5)", x.pay(20, 30, 100, 5), 899);
        checks.due("account(20, 0)", x.account(20, 0), 899);
        checks.due("account(30, 0)", x.account(30, 0), 1100);
        checks.due("account(5, 0)", x.account(5, 0), 1001);
        checks.due("account(6, 0)", x.account(6, 0), 1000);
        checks.due("pay(20, 30, 1, 5)", x.pay(20, 30, 1, 5), 897);
        checks.due("sum(20)", x.sum(20), 201600);
        checks.due("sum(21)", x.sum(21), 0);
    }

    private static void allOfTheBalance(Checks checks) {
        StakeLedger x = new StakeLedger();
        checks.due("pay(20, 30, 999, 5)", x.pay(20, 30, 999, 5), 0);
        checks.due("the fee comes back: pay(6, 30, 1000, 6)", x.pay(6, 30, 1000, 6), 0);
        checks.due("account(30, 0)", x.account(30, 0), 2999);
        checks.due("account(6, 0)", x.account(6, 0), 0);
    }

    private static void oneAccountTwice(Checks checks) {
        StakeLedger x = new StakeLedger();
        checks.due("pay(7, 7, 1000, 7)", x.pay(7, 7, 1000, 7), 1000);
        checks.due("pay(7, 7, 999, 8)", x.pay(7, 7, 999, 8), 999);
        checks.due("pay(20, 9, 10, 9)", x.pay(20, 9, 10, 9), 989);
        checks.due("account(9, 0)", x.account(9, 0), 1011);
    }

    private static void lastAccounts(Checks checks) {
        StakeLedger x = new StakeLedger();
        checks.due("pay(199, 0, 1, 15)", x.pay(199, 0, 1, 15), 998);
        checks.due("pay(0, 199, 1001, 0)", x.pay(0, 199, 1001, 0), 0);
        checks.due("account(199, 0)", x.account(199, 0), 1999);
        checks.due("account(15, 0)", x.account(15, 0), 1001);
    }

    private static void wrongArguments(Checks checks) {
        checks.badArgument("pay(-1, 1, 5, 0)", x -> x.pay(-1, 1, 5, 0));
        checks.badArgument("pay(200, 1, 5, 0)", x -> x.pay(200, 1, 5, 0));
        checks.badArgument("pay(0, -1, 5, 0)", x -> x.pay(0, -1, 5, 0));
        checks.badArgument("pay(0, 200, 5, 0)", x -> x.pay(0, 200, 5, 0));
        checks.badArgument("pay(0, 1, 5, -1)", x -> x.pay(0, 1, 5, -1));
        checks.badArgument("pay(0, 1, 5, 16)", x -> x.pay(0, 1, 5, 16));
        checks.badArgument("pay(0, 1, 0, 0)", x -> x.pay(0, 1, 0, 0));
        checks.badArgument("pay(0, 1, -5, 0)", x -> x.pay(0, 1, -5, 0));
        checks.badArgument("pay(0, 1, 1000001, 0)", x -> x.pay(0, 1, 1000001, 0));
        checks.badArgument("pay(0, 1, MAX, 0)", x -> x.pay(0, 1, Integer.MAX_VALUE, 0));
        checks.badArgument("pay(MIN, 1, 5, 0)", x -> x.pay(Integer.MIN_VALUE, 1, 5, 0));
    }

    private static void notEnough(Checks checks) {
        checks.badState("pay(20, 30, 1000, 5)", Checks.NOTHING, x -> x.pay(20, 30, 1000, 5));
        checks.badState("pay(20, 20, 1000, 5)", Checks.NOTHING, x -> x.pay(20, 20, 1000, 5));
        checks.badState("pay(5, 30, 1001, 5)", Checks.NOTHING, x -> x.pay(5, 30, 1001, 5));
        checks.badState("pay(5, 30, 1000000, 5)", Checks.NOTHING, x -> x.pay(5, 30, 1000000, 5));
        checks.badState("pay(20, 30, 1, 5) with 0", x -> SetUp.drain(x, 20), x -> x.pay(20, 30, 1, 5));
        checks.badState("pay(4, 30, 1, 4) with 0", x -> SetUp.drain(x, 4), x -> x.pay(4, 30, 1, 4));
        checks.badState("pay(20, 30, 1, 5) with 1", x -> x.pay(20, 30, 998, 5), x -> x.pay(20, 30, 1, 5));
    }
}
