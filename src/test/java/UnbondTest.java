/** Promise 4. */
public final class UnbondTest {
    public static void main(String[] args) {
        Checks checks = new Checks();
        partAndAll(checks);
        everyNode(checks);
        dueFourOn(checks);
        gapInTheMiddle(checks);
        accountA(checks);
        node(checks);
        feeTaker(checks);
        amount(checks);
        noFee(checks);
        bondOfAtLeastV(checks);
        bondOfAtLeastVAfterCut(checks);
        thirtyTwo(checks);
        thirtyTwoReturns(checks);
        checks.end();
    }

    /** "which goes, if nothing is left". */
    private static void partAndAll(Checks checks) {
        StakeLedger x = new StakeLedger();
        checks.due("unbond(3, 3, 40, 5)", x.unbond(3, 3, 40, 5), 1);
        checks.due("account(3, 4)", x.account(3, 4), 60);
        checks.due("account(3, 17)", x.account(3, 17), 40);
        checks.due("account(3, 0)", x.account(3, 0), 999);
        checks.due("account(5, 0)", x.account(5, 0), 1001);
        checks.due("unbond(3, 3, 59, 5)", x.unbond(3, 3, 59, 5), 2);
        checks.due("account(3, 4)", x.account(3, 4), 1);
        checks.due("sum(3)", x.sum(3), 1);
        checks.due("sum(19) with 1 left", x.sum(19), 16);
        checks.due("unbond(3, 3, 1, 5)", x.unbond(3, 3, 1, 5), 3);
        checks.due("account(3, 4)", x.account(3, 4), 0);
        checks.due("account(3, 17)", x.account(3, 17), 100);
        checks.due("sum(3)", x.sum(3), 0);
        checks.due("sum(18)", x.sum(18), 3);
        checks.due("sum(19) with nothing left", x.sum(19), 15);
        checks.due("sum(20)", x.sum(20), 201600);
    }

    private static void everyNode(Checks checks) {
        StakeLedger x = new StakeLedger();
        for (int n = 0; n < 16; n++) {
            checks.due("unbond(" + n + ", " + n + ", 100, 0)", x.unbond(n, n, 100, 0), n + 1);
            checks.due("sum(" + n + ")", x.sum(n), 0);
            checks.due("account(" + n + ", 17)", x.account(n, 17), 100);
            checks.due("sum(19)", x.sum(19), 15 - n);
        }
    }

    /** "a RETURN, the last one, due 4 HEIGHTS on". */
    private static void dueFourOn(Checks checks) {
        StakeLedger x = new StakeLedger();
        SetUp.nextTimes(x, 7);
        x.unbond(3, 3, 10, 5);
        x.next();
        x.unbond(3, 3, 20, 5);
        checks.due("next() to 9", x.next(), 0);
        checks.due("next() to 10", x.next(), 0);
        checks.due("account(3, 17) at height 10", x.account(3, 17), 30);
        checks.due("account(3, 0) at height 10", x.account(3, 0), 998);
        checks.due("next() to 11", x.next(), 1);
        checks.due("account(3, 17) at height 11", x.account(3, 17), 20);
        checks.due("account(3, 0) at height 11", x.account(3, 0), 1008);
        checks.due("next() to 12", x.next(), 1);
        checks.due("account(3, 17) at height 12", x.account(3, 17), 0);
        checks.due("account(3, 0) at height 12", x.account(3, 0), 1028);
    }

    private static void gapInTheMiddle(Checks checks) {
        StakeLedger x = new StakeLedger();
        x.bond(20, 7, 11, 0);
        x.unbond(7, 7, 100, 0);
        for (int n = 0; n < 16; n++) {
            checks.due("account(" + n + ", " + (n + 1) + ")", x.account(n, n + 1), n == 7 ? 0 : 100);
        }
        checks.due("account(20, 8)", x.account(20, 8), 11);
        checks.due("bond(7, 7, 3, 0)", x.bond(7, 7, 3, 0), 3);
    }

    /** "IllegalArgumentException as by bond": a is no ACCOUNT. */
    private static void accountA(Checks checks) {
        checks.badArgument("unbond(-1, 3, 5, 0)", x -> x.unbond(-1, 3, 5, 0));
        checks.badArgument("unbond(200, 3, 5, 0)", x -> x.unbond(200, 3, 5, 0));
        checks.range("unbond(a, 3, 5, 0)", 0, 199, Checks.ARGUMENT, (x, a) -> x.unbond(a, 3, 5, 0));
    }

    /** "IllegalArgumentException as by bond": n is no NODE. */
    private static void node(Checks checks) {
        checks.badArgument("unbond(20, -1, 5, 0)", x -> x.unbond(20, -1, 5, 0));
        checks.badArgument("unbond(20, 16, 5, 0)", x -> x.unbond(20, 16, 5, 0));
        checks.range("unbond(20, n, 5, 0)", 0, 15, Checks.ARGUMENT, (x, n) -> x.unbond(20, n, 5, 0));
    }

    /** "IllegalArgumentException as by bond": p is no ACCOUNT 0 to 15. */
    private static void feeTaker(Checks checks) {
        checks.badArgument("unbond(3, 3, 5, -1)", x -> x.unbond(3, 3, 5, -1));
        checks.badArgument("unbond(3, 3, 5, 16)", x -> x.unbond(3, 3, 5, 16));
        checks.badArgument("unbond(3, 3, 5, 199)", x -> x.unbond(3, 3, 5, 199));
        checks.range("unbond(3, 3, 5, p)", 0, 15, Checks.ARGUMENT, (x, p) -> x.unbond(3, 3, 5, p));
    }

    /** "IllegalArgumentException as by bond": v is not 1 to 1000000. */
    private static void amount(Checks checks) {
        checks.taken("unbond(3, 3, 1, 0)", 1, Checks.NOTHING, x -> x.unbond(3, 3, 1, 0));
        checks.badState("unbond(3, 3, 1000000, 0)", Checks.NOTHING, x -> x.unbond(3, 3, 1000000, 0));
        checks.badArgument("unbond(3, 3, 0, 0)", x -> x.unbond(3, 3, 0, 0));
        checks.badArgument("without a bond too: unbond(3, 4, 0, 0)", x -> x.unbond(3, 4, 0, 0));
        checks.badArgument("unbond(3, 3, -1, 0)", x -> x.unbond(3, 3, -1, 0));
        checks.badArgument("unbond(3, 3, 1000001, 0)", x -> x.unbond(3, 3, 1000001, 0));
        checks.badArgument("unbond(3, 3, MIN, 0)", x -> x.unbond(3, 3, Integer.MIN_VALUE, 0));
        checks.badArgument("unbond(3, 3, MAX, 0)", x -> x.unbond(3, 3, Integer.MAX_VALUE, 0));
    }

    /** "IllegalStateException if there is no fee": what is unbonded is not there for it. */
    private static void noFee(Checks checks) {
        checks.badState("unbond(3, 3, 100, 5) with 0", x -> SetUp.drain(x, 3), x -> x.unbond(3, 3, 100, 5));
        checks.badState("unbond(3, 3, 100, 3) with 0", x -> SetUp.drain(x, 3), x -> x.unbond(3, 3, 100, 3));
        StakeLedger x = new StakeLedger();
        SetUp.leave(x, 3, 1);
        checks.due("with a balance of 1: unbond(3, 3, 100, 5)", x.unbond(3, 3, 100, 5), 1);
        checks.due("account(3, 0)", x.account(3, 0), 0);
        SetUp.leave(x, 4, 1);
        checks.due("the fee comes back: unbond(4, 4, 1, 4)", x.unbond(4, 4, 1, 4), 2);
        checks.due("account(4, 0)", x.account(4, 0), 1);
    }

    /** "no such BOND of at least v". */
    private static void bondOfAtLeastV(Checks checks) {
        checks.taken("unbond(3, 3, 99, 5)", 1, Checks.NOTHING, x -> x.unbond(3, 3, 99, 5));
        checks.taken("unbond(3, 3, 100, 5)", 1, Checks.NOTHING, x -> x.unbond(3, 3, 100, 5));
        checks.badState("unbond(3, 3, 101, 5)", Checks.NOTHING, x -> x.unbond(3, 3, 101, 5));
        checks.badState("no bond: unbond(20, 3, 1, 5)", Checks.NOTHING, x -> x.unbond(20, 3, 1, 5));
        checks.badState("with another node: unbond(3, 4, 1, 5)", Checks.NOTHING, x -> x.unbond(3, 4, 1, 5));
        checks.badState("the power is more: unbond(20, 3, 41, 5)", x -> x.bond(20, 3, 40, 5),
            x -> x.unbond(20, 3, 41, 5));
        checks.badState("two bonds together are more: unbond(20, 3, 41, 5)", x -> {
            x.bond(20, 3, 40, 5);
            x.bond(20, 4, 40, 5);
        }, x -> x.unbond(20, 3, 41, 5));
        checks.badState("it is gone: unbond(3, 3, 1, 5)", x -> x.unbond(3, 3, 100, 5), x -> x.unbond(3, 3, 1, 5));
    }

    /** A jailed node has no power, but its bonds are there, without the quarter. */
    private static void bondOfAtLeastVAfterCut(Checks checks) {
        checks.taken("unbond(3, 3, 75, 5)", 1, SetUp::proveAll, x -> x.unbond(3, 3, 75, 5));
        checks.badState("unbond(3, 3, 76, 5)", SetUp::proveAll, x -> x.unbond(3, 3, 76, 5));
        StakeLedger x = new StakeLedger();
        SetUp.proveAll(x);
        x.unbond(3, 3, 75, 5);
        checks.due("sum(19)", x.sum(19), 15);
        checks.due("sum(20)", x.sum(20), 201600);
    }

    /** The 32nd is not refused, also if they are all of one account. */
    private static void thirtyTwo(Checks checks) {
        StakeLedger x = new StakeLedger();
        for (int i = 1; i <= 32; i++) {
            checks.due("unbond(3, 3, 2, 0) for the time " + i, x.unbond(3, 3, 2, 0), i);
        }
        checks.due("sum(18)", x.sum(18), 32);
        checks.due("account(3, 17)", x.account(3, 17), 64);
        checks.due("account(3, 4)", x.account(3, 4), 36);
    }

    /** "or there are 32 RETURNS". */
    private static void thirtyTwoReturns(Checks checks) {
        checks.badState("unbond(0, 0, 1, 0) beside 32", SetUp::fillReturns, x -> x.unbond(0, 0, 1, 0));
        checks.badState("unbond(15, 15, 94, 1) beside 32", SetUp::fillReturns, x -> x.unbond(15, 15, 94, 1));
        checks.refused("unbond(0, 0, 1, 0) at height 3", Checks.STATE, x -> {
            SetUp.fillReturns(x);
            SetUp.nextTimes(x, 3);
        }, x -> x.unbond(0, 0, 1, 0));
        StakeLedger x = new StakeLedger();
        x.unbond(0, 0, 1, 0);
        x.next();
        for (int i = 1; i < 32; i++) {
            x.unbond(1, 1, 1, 0);
        }
        SetUp.nextTimes(x, 3);
        checks.due("one place again: unbond(2, 2, 1, 0)", x.unbond(2, 2, 1, 0), 32);
        checks.due("unbond(2, 2, 1, 0)", Checks.answer(x, y -> y.unbond(2, 2, 1, 0)),
            "throws.IllegalStateException");
    }
}
