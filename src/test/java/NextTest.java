/** Promise 7. */
public final class NextTest {
    public static void main(String[] args) {
        Checks checks = new Checks();
        heights(checks);
        severalAtOnce(checks);
        severalHeights(checks);
        placesAgain(checks);
        lastHeight(checks);
        checks.end();
    }

    private static void heights(Checks checks) {
        StakeLedger x = new StakeLedger();
        for (int h = 1; h <= 10; h++) {
            checks.due("next()", x.next(), 0);
            checks.due("sum(21)", x.sum(21), h);
        }
        checks.due("no fee: account(0, 0)", x.account(0, 0), 1000);
    }

    private static void severalAtOnce(Checks checks) {
        StakeLedger x = new StakeLedger();
        x.unbond(3, 3, 10, 0);
        x.unbond(4, 4, 20, 0);
        x.unbond(3, 3, 30, 0);
        x.next();
        x.unbond(5, 5, 40, 0);
        SetUp.nextTimes(x, 2);
        checks.due("sum(18) at 3", x.sum(18), 4);
        checks.due("next() to 4", x.next(), 3);
        checks.due("sum(18) at 4", x.sum(18), 1);
        checks.due("account(3, 0)", x.account(3, 0), 1038);
        checks.due("account(4, 0)", x.account(4, 0), 1019);
        checks.due("account(5, 0)", x.account(5, 0), 999);
        checks.due("account(5, 17)", x.account(5, 17), 40);
        checks.due("account(3, 17)", x.account(3, 17), 0);
        checks.due("next() to 5", x.next(), 1);
        checks.due("account(5, 0)", x.account(5, 0), 1039);
        checks.due("next() to 6", x.next(), 0);
        checks.due("sum(20)", x.sum(20), 201600);
    }

    /** Each stays due at its own height, also when those before it are gone. */
    private static void severalHeights(Checks checks) {
        StakeLedger x = new StakeLedger();
        x.unbond(0, 0, 10, 0);
        x.next();
        x.unbond(1, 1, 20, 0);
        x.unbond(2, 2, 30, 0);
        x.next();
        x.next();
        x.unbond(3, 3, 40, 0);
        checks.due("next() to 4", x.next(), 1);
        checks.due("next() to 5", x.next(), 2);
        checks.due("account(2, 0)", x.account(2, 0), 1029);
        checks.due("account(3, 17)", x.account(3, 17), 40);
        checks.due("next() to 6", x.next(), 0);
        checks.due("next() to 7", x.next(), 1);
        checks.due("account(3, 0)", x.account(3, 0), 1039);
    }

    private static void placesAgain(Checks checks) {
        StakeLedger x = new StakeLedger();
        SetUp.fillReturns(x);
        SetUp.nextTimes(x, 3);
        checks.due("next() to 4", x.next(), 32);
        checks.due("unbond(0, 0, 1, 0)", x.unbond(0, 0, 1, 0), 1);
        checks.due("account(0, 0)", x.account(0, 0), 1036);
    }

    /** The document frees the answers behind 512 calls; that this class keeps on is its own affair. */
    private static void lastHeight(Checks checks) {
        checks.badState("next() at 1000000", x -> SetUp.nextTimes(x, 1000000), x -> x.next());
        StakeLedger x = new StakeLedger();
        SetUp.nextTimes(x, 999999);
        checks.due("next() at 999999", x.next(), 0);
        checks.due("sum(21)", x.sum(21), 1000000);
        checks.due("unbond(0, 0, 1, 0) at 1000000", x.unbond(0, 0, 1, 0), 1);
        checks.due("prove(0, 0, 1000000, 0)", x.prove(0, 0, 1000000, 0), 24);
    }
}
