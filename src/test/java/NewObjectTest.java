/** Promise 1. */
public final class NewObjectTest {
    public static void main(String[] args) {
        Checks checks = new Checks();
        balances(checks);
        bonds(checks);
        sums(checks);
        keptStates(checks);
        objectsAreApart(checks);
        firstOfTwoExceptions(checks);
        checks.end();
    }

    private static void balances(Checks checks) {
        StakeLedger x = new StakeLedger();
        for (int a = 0; a < 200; a++) {
            checks.due("account(" + a + ", 0)", x.account(a, 0), 1000);
            checks.due("account(" + a + ", 17)", x.account(a, 17), 0);
        }
    }

    private static void bonds(Checks checks) {
        for (int from = 0; from < 200; from += 25) {
            StakeLedger x = new StakeLedger();
            for (int a = from; a < from + 25; a++) {
                for (int n = 0; n < 16; n++) {
                    int want = a == n ? 100 : 0;
                    checks.due("account(" + a + ", " + (n + 1) + ")", x.account(a, n + 1), want);
                }
            }
        }
    }

    private static void sums(Checks checks) {
        StakeLedger x = new StakeLedger();
        for (int n = 0; n < 16; n++) {
            checks.due("sum(" + n + ")", x.sum(n), 100);
        }
        checks.due("sum(16)", x.sum(16), 0);
        checks.due("sum(17)", x.sum(17), 0);
        checks.due("sum(18)", x.sum(18), 0);
        checks.due("sum(19)", x.sum(19), 16);
        checks.due("sum(20)", x.sum(20), 201600);
        checks.due("sum(21)", x.sum(21), 0);
    }

    private static void keptStates(Checks checks) {
        for (int k = 0; k < 8; k++) {
            StakeLedger x = new StakeLedger();
            x.bond(20, 3, 40, 1);
            x.unbond(4, 4, 100, 2);
            SetUp.nextTimes(x, 3);
            x.prove(50, 3, 2, 3);
            checks.due("back(" + k + ")", x.back(k), 0);
            checks.same("after back(" + k + ")", x, new StakeLedger());
            x.next();
            checks.due("the proved height is 0 again: prove(50, 3, 1, 3)", x.prove(50, 3, 1, 3), 25);
        }
    }

    private static void objectsAreApart(Checks checks) {
        StakeLedger x = new StakeLedger();
        StakeLedger y = new StakeLedger();
        x.pay(0, 1, 10, 2);
        x.keep(0);
        checks.due("account(0, 0) of another object", y.account(0, 0), 1000);
        y.back(0);
        checks.due("account(0, 0) of another object after back(0)", y.account(0, 0), 1000);
    }

    private static void firstOfTwoExceptions(Checks checks) {
        Class<?> argument = IllegalArgumentException.class;
        Class<?> index = IndexOutOfBoundsException.class;
        checks.refused("pay(16, 1, 5, 16) without a balance", argument,
            x -> SetUp.drain(x, 16), x -> x.pay(16, 1, 5, 16));
        checks.refused("bond(16, 16, 5, 0) without a balance", argument,
            x -> SetUp.drain(x, 16), x -> x.bond(16, 16, 5, 0));
        checks.refused("unbond(16, 0, 0, 0) without a balance", argument,
            x -> SetUp.drain(x, 16), x -> x.unbond(16, 0, 0, 0));
        checks.refused("free(16, -1, 0) without a balance", argument,
            x -> SetUp.drain(x, 16), x -> x.free(16, -1, 0));
        checks.refused("prove(16, 0, 0, 16) without a balance", argument,
            x -> SetUp.drain(x, 16), x -> x.prove(16, 0, 0, 16));
        checks.refused("account(200, 18)", index, Checks.NOTHING, x -> x.account(200, 18));
        checks.refused("account(-1, -1)", index, Checks.NOTHING, x -> x.account(-1, -1));
    }
}
