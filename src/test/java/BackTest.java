/** Promise 9. */
public final class BackTest {
    public static void main(String[] args) {
        Checks checks = new Checks();
        backTwice(checks);
        keptStatesStay(checks);
        neverKept(checks);
        forthAndBack(checks);
        otherBonds(checks);
        numbers(checks);
        checks.end();
    }

    private static void backTwice(Checks checks) {
        StakeLedger x = new StakeLedger();
        x.unbond(3, 3, 10, 0);
        SetUp.nextTimes(x, 3);
        x.keep(2);
        for (int i = 0; i < 3; i++) {
            checks.due("next() to 4", x.next(), 1);
            checks.due("account(3, 0)", x.account(3, 0), 1009);
            x.pay(3, 4, 1000, 0);
            checks.due("back(2)", x.back(2), 3);
            checks.due("account(3, 0)", x.account(3, 0), 999);
            checks.due("account(3, 17)", x.account(3, 17), 10);
            checks.due("sum(18)", x.sum(18), 1);
        }
    }

    /** What goes on from a kept state leaves all that are kept as they are. */
    private static void keptStatesStay(Checks checks) {
        for (int k = 0; k < 8; k++) {
            int number = k;
            checks.same("after back(" + k + ") and calls", x -> {
                SetUp.busy(x);
                x.keep(1);
                x.back(number);
                x.next();
                x.pay(1, 2, 3, 4);
                x.bond(21, 9, 6, 4);
                x.unbond(3, 3, 50, 4);
                x.prove(5, 9, 1, 4);
                x.back(1);
            }, x -> {
                SetUp.busy(x);
                x.keep(1);
            });
        }
    }

    private static void neverKept(Checks checks) {
        for (int k = 1; k < 7; k++) {
            int number = k;
            checks.sameState("after back(" + k + ")", x -> {
                SetUp.busy(x);
                x.back(number);
            }, Checks.NOTHING);
        }
        StakeLedger x = new StakeLedger();
        SetUp.fillBonds(x);
        x.unbond(0, 0, 100, 0);
        SetUp.proveAll(x);
        checks.due("back(7)", x.back(7), 0);
        checks.due("sum(16)", x.sum(16), 0);
        checks.due("sum(17)", x.sum(17), 0);
        checks.due("sum(18)", x.sum(18), 0);
        checks.due("sum(19)", x.sum(19), 16);
        checks.due("account(0, 1)", x.account(0, 1), 100);
        checks.due("account(30, 0)", x.account(30, 0), 1000);
        x.next();
        x.pay(1, 2, 3, 4);
        checks.due("back(7) again", x.back(7), 0);
        checks.due("account(1, 0)", x.account(1, 0), 1000);
    }

    private static void forthAndBack(Checks checks) {
        StakeLedger x = new StakeLedger();
        x.bond(20, 3, 40, 1);
        x.keep(0);
        x.next();
        x.prove(50, 3, 1, 1);
        x.keep(1);
        checks.due("back(0)", x.back(0), 0);
        checks.due("account(20, 4)", x.account(20, 4), 40);
        checks.due("sum(16)", x.sum(16), 0);
        checks.due("back(1)", x.back(1), 1);
        checks.due("account(20, 4)", x.account(20, 4), 30);
        checks.due("sum(16)", x.sum(16), 8);
        checks.due("sum(17)", x.sum(17), 35);
    }

    private static void otherBonds(Checks checks) {
        StakeLedger x = new StakeLedger();
        x.bond(20, 3, 40, 1);
        x.keep(0);
        x.bond(22, 3, 5, 1);
        x.unbond(20, 3, 40, 1);
        x.bond(21, 4, 60, 1);
        x.back(0);
        checks.due("sum(19)", x.sum(19), 17);
        checks.due("account(20, 4)", x.account(20, 4), 40);
        checks.due("account(21, 5)", x.account(21, 5), 0);
        checks.due("account(22, 4)", x.account(22, 4), 0);
        x.unbond(20, 3, 40, 1);
        x.keep(0);
        x.bond(21, 4, 60, 1);
        x.back(0);
        checks.due("sum(19)", x.sum(19), 16);
        checks.due("account(21, 5)", x.account(21, 5), 0);
        checks.due("sum(4)", x.sum(4), 100);
    }

    /** "IndexOutOfBoundsException if k is not 0 to 7." */
    private static void numbers(Checks checks) {
        checks.badIndex("back(-1)", x -> x.back(-1));
        checks.badIndex("back(8)", x -> x.back(8));
        checks.range("back(k)", 0, 7, Checks.INDEX, StakeLedger::back);
    }
}
