import java.util.function.Consumer;

/** Promise 7. */
public final class NextTest {
    public static void main(String[] args) {
        Checks checks = new Checks();
        heights(checks);
        noReturns(checks);
        severalAtOnce(checks);
        severalHeights(checks);
        allThirtyTwo(checks);
        nothingElseChanges(checks);
        lastHeight(checks);
        checks.end();
    }

    private static void heights(Checks checks) {
        StakeLedger x = new StakeLedger();
        for (int h = 1; h <= 10; h++) {
            checks.due("next()", x.next(), 0);
            checks.due("sum(21)", x.sum(21), h);
        }
    }

    private static void noReturns(Checks checks) {
        StakeLedger x = new StakeLedger();
        checks.due("next() without returns", x.next(), 0);
        x.unbond(3, 3, 10, 0);
        SetUp.nextTimes(x, 4);
        checks.due("sum(18)", x.sum(18), 0);
        checks.due("next() when they are gone", x.next(), 0);
        checks.due("account(3, 0)", x.account(3, 0), 1009);
    }

    /** "RETURNS that are due at it or before go back to BALANCES, in order: how many were". */
    private static void severalAtOnce(Checks checks) {
        StakeLedger x = new StakeLedger();
        x.unbond(3, 3, 10, 0);
        x.unbond(4, 4, 20, 0);
        x.unbond(3, 3, 30, 0);
        x.next();
        x.unbond(5, 5, 40, 0);
        SetUp.nextTimes(x, 2);
        checks.due("sum(18) at 3", x.sum(18), 4);
        checks.due("next() to 4", x.next(), 3);
        checks.due("sum(18) at 4", x.sum(18), 1);
        checks.due("account(3, 0)", x.account(3, 0), 1038);
        checks.due("account(4, 0)", x.account(4, 0), 1019);
        checks.due("account(5, 0)", x.account(5, 0), 999);
        checks.due("account(5, 17)", x.account(5, 17), 40);
        checks.due("account(3, 17)", x.account(3, 17), 0);
        checks.due("next() to 5", x.next(), 1);
        checks.due("account(5, 0)", x.account(5, 0), 1039);
        checks.due("next() to 6", x.next(), 0);
        checks.due("sum(20)", x.sum(20), 201600);
    }

    /** Each stays due at its own height, also when those before it are gone. */
    private static void severalHeights(Checks checks) {
        StakeLedger x = new StakeLedger();
        x.unbond(0, 0, 10, 0);
        x.next();
        x.unbond(1, 1, 20, 0);
        x.unbond(2, 2, 30, 0);
        x.next();
        x.next();
        x.unbond(3, 3, 40, 0);
        checks.due("next() to 4", x.next(), 1);
        checks.due("next() to 5", x.next(), 2);
        checks.due("account(2, 0)", x.account(2, 0), 1029);
        checks.due("account(3, 17)", x.account(3, 17), 40);
        checks.due("next() to 6", x.next(), 0);
        checks.due("next() to 7", x.next(), 1);
        checks.due("account(3, 0)", x.account(3, 0), 1039);
    }

    private static void allThirtyTwo(Checks checks) {
        StakeLedger x = new StakeLedger();
        SetUp.fillReturns(x);
        checks.due("next() to 1", x.next(), 0);
        checks.due("next() to 2", x.next(), 0);
        checks.due("next() to 3", x.next(), 0);
        checks.due("sum(18) at 3", x.sum(18), 32);
        checks.due("next() to 4", x.next(), 32);
        checks.due("sum(18) at 4", x.sum(18), 0);
        for (int a = 1; a < 16; a++) {
            checks.due("account(" + a + ", 0)", x.account(a, 0), 1004);
        }
        checks.due("account(0, 0)", x.account(0, 0), 1036);
        checks.due("unbond(0, 0, 1, 0)", x.unbond(0, 0, 1, 0), 1);
    }

    /** No fee, no node, no bond: a busy object at height 3 has the first return due at 4. */
    private static void nothingElseChanges(Checks checks) {
        StakeLedger x = new StakeLedger();
        StakeLedger before = new StakeLedger();
        SetUp.busy(x);
        SetUp.busy(before);
        checks.due("next()", x.next(), 1);
        checks.due("nodes 0 and 15 stay jailed: sum(16)", x.sum(16), 32769);
        checks.due("sum(17)", x.sum(17), 25 + 7 + 25 + 7);
        for (int a = 0; a < 200; a++) {
            int back = a == 4 ? 90 : 0;
            checks.due("account(" + a + ", 0)", x.account(a, 0), before.account(a, 0) + back);
        }
        for (int what = 0; what <= 20; what++) {
            int gone = what == 18 ? 1 : 0;
            checks.due("sum(" + what + ")", x.sum(what), before.sum(what) - gone);
        }
    }

    /**
     * "IllegalStateException at 1000000." Only far behind 512 calls can a run come there, where the
     * document frees the answers; that this class keeps on is its own affair.
     */
    private static void lastHeight(Checks checks) {
        Consumer<StakeLedger> last = x -> {
            SetUp.nextTimes(x, 1000000 - x.sum(21));
            x.unbond(3, 3, 5, 0);
        };
        checks.badState("next() at 1000000", last, StakeLedger::next);
        StakeLedger x = new StakeLedger();
        SetUp.nextTimes(x, 999999);
        checks.due("next() at 999999", x.next(), 0);
        checks.due("sum(21)", x.sum(21), 1000000);
        checks.due("unbond(0, 0, 1, 0) at 1000000", x.unbond(0, 0, 1, 0), 1);
        checks.due("prove(0, 0, 1000000, 0)", x.prove(0, 0, 1000000, 0), 24);
        checks.due("back(0)", x.back(0), 0);
        checks.due("next() at 0", x.next(), 0);
    }
}
