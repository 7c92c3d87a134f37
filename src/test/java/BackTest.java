/** Promise 9. */
public final class BackTest {
    public static void main(String[] args) {
        Checks checks = new Checks();
        backTwice(checks);
        neverKept(checks);
        forthAndBack(checks);
        otherBonds(checks);
        wrongNumbers(checks);
        checks.end();
    }

    private static void backTwice(Checks checks) {
        StakeLedger x = new StakeLedger();
        x.unbond(3, 3, 10, 0);
        SetUp.nextTimes(x, 3);
        x.keep(2);
        for (int i = 0; i < 3; i++) {
            checks.due("next() to 4", x.next(), 1);
            checks.due("account(3, 0)", x.account(3, 0), 1009);
            x.pay(3, 4, 1000, 0);
            checks.due("back(2)", x.back(2), 3);
            checks.due("account(3, 0)", x.account(3, 0), 999);
            checks.due("account(3, 17)", x.account(3, 17), 10);
            checks.due("sum(18)", x.sum(18), 1);
        }
    }

    private static void neverKept(Checks checks) {
        StakeLedger x = new StakeLedger();
        SetUp.fillBonds(x);
        x.unbond(0, 0, 100, 0);
        SetUp.proveAll(x);
        checks.due("back(7)", x.back(7), 0);
        checks.due("sum(16)", x.sum(16), 0);
        checks.due("sum(17)", x.sum(17), 0);
        checks.due("sum(18)", x.sum(18), 0);
        checks.due("sum(19)", x.sum(19), 16);
        checks.due("account(0, 1)", x.account(0, 1), 100);
        checks.due("account(30, 0)", x.account(30, 0), 1000);
        x.next();
        x.pay(1, 2, 3, 4);
        checks.due("back(7) again", x.back(7), 0);
        checks.due("account(1, 0)", x.account(1, 0), 1000);
    }

    private static void forthAndBack(Checks checks) {
        StakeLedger x = new StakeLedger();
        x.bond(20, 3, 40, 1);
        x.keep(0);
        x.next();
        x.prove(50, 3, 1, 1);
        x.keep(1);
        checks.due("back(0)", x.back(0), 0);
        checks.due("account(20, 4)", x.account(20, 4), 40);
        checks.due("sum(16)", x.sum(16), 0);
        checks.due("back(1)", x.back(1), 1);
        checks.due("account(20, 4)", x.account(20, 4), 30);
        checks.due("sum(16)", x.sum(16), 8);
        checks.due("sum(17)", x.sum(17), 35);
    }

    private static void otherBonds(Checks checks) {
        StakeLedger x = new StakeLedger();
        x.bond(20, 3, 40, 1);
        x.keep(0);
        x.bond(22, 3, 5, 1);
        x.unbond(20, 3, 40, 1);
        x.bond(21, 4, 60, 1);
        x.back(0);
        checks.due("sum(19)", x.sum(19), 17);
        checks.due("account(20, 4)", x.account(20, 4), 40);
        checks.due("account(21, 5)", x.account(21, 5), 0);
        checks.due("account(22, 4)", x.account(22, 4), 0);
        x.unbond(20, 3, 40, 1);
        x.keep(0);
        x.bond(21, 4, 60, 1);
        x.back(0);
        checks.due("sum(19)", x.sum(19), 16);
        checks.due("account(21, 5)", x.account(21, 5), 0);
        checks.due("sum(4)", x.sum(4), 100);
    }

    private static void wrongNumbers(Checks checks) {
        checks.refused("back(-1)", IndexOutOfBoundsException.class, SetUp::proveAll, x -> x.back(-1));
        checks.refused("back(8)", IndexOutOfBoundsException.class, SetUp::proveAll, x -> x.back(8));
        checks.badIndex("back(MAX)", x -> x.back(Integer.MAX_VALUE));
        checks.badIndex("back(MIN)", x -> x.back(Integer.MIN_VALUE));
    }
}
