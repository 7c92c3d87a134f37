/** Promise 6. */
public final class ProveTest {
    public static void main(String[] args) {
        Checks checks = new Checks();
        quarterOfEachBond(checks);
        roundedDown(checks);
        eachRoundedAlone(checks);
        returnsAreSafe(checks);
        everyNode(checks);
        provedAgain(checks);
        nodeWithoutBonds(checks);
        accountA(checks);
        feeTaker(checks);
        node(checks);
        noFee(checks);
        aboveHeight(checks);
        notAboveProvedHeight(checks);
        zeroOrBelow(checks);
        checks.end();
    }

    private static void quarterOfEachBond(Checks checks) {
        StakeLedger x = new StakeLedger();
        x.bond(20, 3, 7, 0);
        x.bond(21, 3, 11, 0);
        x.bond(20, 4, 50, 0);
        x.next();
        checks.due("prove(30, 3, 1, 5)", x.prove(30, 3, 1, 5), 28);
        checks.due("account(3, 4)", x.account(3, 4), 75);
        checks.due("account(20, 4)", x.account(20, 4), 6);
        checks.due("account(21, 4)", x.account(21, 4), 9);
        checks.due("account(20, 5)", x.account(20, 5), 50);
        checks.due("sum(3)", x.sum(3), 0);
        checks.due("sum(4)", x.sum(4), 150);
        checks.due("sum(16)", x.sum(16), 8);
        checks.due("sum(17)", x.sum(17), 28);
        checks.due("sum(20)", x.sum(20), 201600);
        checks.due("account(30, 0)", x.account(30, 0), 999);
        checks.due("account(5, 0)", x.account(5, 0), 1001);
        checks.due("prove(199, 15, 1, 15)", x.prove(199, 15, 1, 15), 25);
        checks.due("sum(16)", x.sum(16), 32776);
        checks.due("sum(17)", x.sum(17), 53);
    }

    /** "a quarter, rounded down": of 1 to 3 nothing goes, and no BOND goes for it. */
    private static void roundedDown(Checks checks) {
        int[] quarter = {0, 0, 0, 0, 1, 1, 1, 1, 2, 2};
        for (int v = 1; v <= 9; v++) {
            StakeLedger x = new StakeLedger();
            x.unbond(3, 3, 100, 0);
            x.bond(20, 3, v, 0);
            x.next();
            checks.due("prove(30, 3, 1, 5) with " + v, x.prove(30, 3, 1, 5), quarter[v]);
            checks.due("account(20, 4) of " + v, x.account(20, 4), v - quarter[v]);
            checks.due("sum(17) with " + v, x.sum(17), quarter[v]);
            checks.due("sum(19) with " + v, x.sum(19), 16);
            checks.due("free(30, 3, 5) with " + v, x.free(30, 3, 5), v - quarter[v]);
        }
    }

    /** 3 and 3 and 3 are 9, but nothing goes of any of them. */
    private static void eachRoundedAlone(Checks checks) {
        StakeLedger x = new StakeLedger();
        x.unbond(3, 3, 97, 0);
        x.bond(20, 3, 3, 0);
        x.bond(21, 3, 3, 0);
        x.next();
        checks.due("prove(30, 3, 1, 5)", x.prove(30, 3, 1, 5), 0);
        checks.due("sum(17)", x.sum(17), 0);
        checks.due("sum(16)", x.sum(16), 8);
        checks.due("free(30, 3, 5)", x.free(30, 3, 5), 9);
    }

    private static void returnsAreSafe(Checks checks) {
        StakeLedger x = new StakeLedger();
        x.unbond(3, 3, 60, 0);
        x.next();
        checks.due("prove(30, 3, 1, 5)", x.prove(30, 3, 1, 5), 10);
        checks.due("account(3, 17)", x.account(3, 17), 60);
        SetUp.nextTimes(x, 3);
        checks.due("account(3, 0)", x.account(3, 0), 1059);
    }

    private static void everyNode(Checks checks) {
        StakeLedger x = new StakeLedger();
        x.next();
        for (int n = 0; n < 16; n++) {
            checks.due("prove(30, " + n + ", 1, 5)", x.prove(30, n, 1, 5), 25);
            checks.due("sum(" + n + ")", x.sum(n), 0);
            checks.due("sum(16)", x.sum(16), (2 << n) - 1);
            checks.due("sum(17)", x.sum(17), 25 * (n + 1));
        }
    }

    private static void provedAgain(Checks checks) {
        StakeLedger x = new StakeLedger();
        SetUp.nextTimes(x, 5);
        checks.due("prove(30, 3, 2, 5)", x.prove(30, 3, 2, 5), 25);
        checks.due("prove(30, 3, 3, 5) while it is jailed", x.prove(30, 3, 3, 5), 18);
        checks.due("free(30, 3, 5)", x.free(30, 3, 5), 57);
        checks.due("prove(30, 3, 5, 5)", x.prove(30, 3, 5, 5), 14);
        checks.due("sum(16)", x.sum(16), 8);
        checks.due("another's height is its own: prove(30, 4, 1, 5)", x.prove(30, 4, 1, 5), 25);
        checks.due("sum(17)", x.sum(17), 82);
    }

    private static void nodeWithoutBonds(Checks checks) {
        StakeLedger x = new StakeLedger();
        x.unbond(3, 3, 100, 0);
        x.next();
        checks.due("prove(30, 3, 1, 5)", x.prove(30, 3, 1, 5), 0);
        checks.due("sum(16)", x.sum(16), 8);
        checks.due("prove(30, 3, 1, 5)", Checks.answer(x, y -> y.prove(30, 3, 1, 5)),
            "throws.IllegalStateException");
    }

    /** "IllegalArgumentException as by free": a is none. 2 can be proved of any node when busy. */
    private static void accountA(Checks checks) {
        checks.badArgument("prove(-1, 1, 2, 0)", x -> x.prove(-1, 1, 2, 0));
        checks.badArgument("prove(200, 1, 2, 0)", x -> x.prove(200, 1, 2, 0));
        checks.range("prove(a, 1, 2, 0)", 0, 199, Checks.ARGUMENT, (x, a) -> x.prove(a, 1, 2, 0));
    }

    /** "IllegalArgumentException as by free": p is none. */
    private static void feeTaker(Checks checks) {
        checks.badArgument("prove(1, 1, 2, -1)", x -> x.prove(1, 1, 2, -1));
        checks.badArgument("prove(1, 1, 2, 16)", x -> x.prove(1, 1, 2, 16));
        checks.badArgument("prove(1, 1, 2, 199)", x -> x.prove(1, 1, 2, 199));
        checks.range("prove(1, 1, 2, p)", 0, 15, Checks.ARGUMENT, (x, p) -> x.prove(1, 1, 2, p));
    }

    /** "IllegalArgumentException as by free": n is none. */
    private static void node(Checks checks) {
        checks.badArgument("prove(1, -1, 2, 0)", x -> x.prove(1, -1, 2, 0));
        checks.badArgument("prove(1, 16, 2, 0)", x -> x.prove(1, 16, 2, 0));
        checks.badArgument("prove(1, 32, 2, 0)", x -> x.prove(1, 32, 2, 0));
        checks.range("prove(1, n, 2, 0)", 0, 15, Checks.ARGUMENT, (x, n) -> x.prove(1, n, 2, 0));
    }

    /** "IllegalStateException if there is no fee". */
    private static void noFee(Checks checks) {
        checks.badState("prove(30, 3, 1, 5) with 0", x -> left(x, 30, 0), x -> x.prove(30, 3, 1, 5));
        checks.badState("prove(4, 3, 1, 4) with 0", x -> left(x, 4, 0), x -> x.prove(4, 3, 1, 4));
        StakeLedger x = new StakeLedger();
        left(x, 30, 1);
        checks.due("prove(30, 3, 1, 5) with 1", x.prove(30, 3, 1, 5), 25);
        checks.due("account(30, 0)", x.account(30, 0), 0);
        SetUp.leave(x, 4, 1);
        checks.due("prove(4, 4, 1, 4) with 1", x.prove(4, 4, 1, 4), 25);
        checks.due("account(4, 0)", x.account(4, 0), 1);
    }

    private static void left(StakeLedger x, int a, int balance) {
        x.next();
        SetUp.leave(x, a, balance);
    }

    /** "h is above HEIGHT". */
    private static void aboveHeight(Checks checks) {
        checks.refused("prove(30, 3, 1, 5) at 0", Checks.STATE, Checks.NOTHING, x -> x.prove(30, 3, 1, 5));
        checks.refused("prove(30, 3, 4, 5) at 3", Checks.STATE, SetUp::busy, x -> x.prove(30, 3, 4, 5));
        for (int height = 1; height <= 6; height++) {
            int h = height;
            checks.taken("prove(30, 3, h, 5) at " + h, 25, x -> SetUp.nextTimes(x, h), x -> x.prove(30, 3, h, 5));
            checks.refused("prove(30, 3, h + 1, 5) at " + h, Checks.STATE, x -> SetUp.nextTimes(x, h),
                x -> x.prove(30, 3, h + 1, 5));
        }
        checks.badState("prove(30, 3, MAX, 5)", Checks.NOTHING, x -> x.prove(30, 3, Integer.MAX_VALUE, 5));
        checks.refused("another state was higher: prove(30, 3, 3, 5) at 2", Checks.STATE, x -> {
            SetUp.nextTimes(x, 2);
            x.keep(1);
            SetUp.nextTimes(x, 3);
            x.back(1);
        }, x -> x.prove(30, 3, 3, 5));
    }

    /** "or not above its PROVED HEIGHT". */
    private static void notAboveProvedHeight(Checks checks) {
        checks.badState("prove(30, 3, 2, 5) behind 3", ProveTest::provedThree, x -> x.prove(30, 3, 2, 5));
        checks.badState("prove(30, 3, 3, 5) behind 3", ProveTest::provedThree, x -> x.prove(30, 3, 3, 5));
        checks.taken("prove(30, 3, 4, 5) behind 3", 18, ProveTest::provedThree, x -> x.prove(30, 3, 4, 5));
        checks.taken("prove(30, 4, 1, 5) of another", 25, ProveTest::provedThree, x -> x.prove(30, 4, 1, 5));
        checks.badState("prove(31, 3, 3, 6) by another", ProveTest::provedThree, x -> x.prove(31, 3, 3, 6));
        checks.badState("prove(30, 3, 3, 5) of a free node", x -> {
            provedThree(x);
            x.free(30, 3, 5);
        }, x -> x.prove(30, 3, 3, 5));
    }

    private static void provedThree(StakeLedger x) {
        SetUp.nextTimes(x, 5);
        x.prove(30, 3, 3, 5);
    }

    /** "(0 or below never is)". */
    private static void zeroOrBelow(Checks checks) {
        for (int h : new int[] {0, -1, -2, -1000000, Integer.MIN_VALUE}) {
            checks.badState("of a free node: prove(30, 3, " + h + ", 5)", Checks.NOTHING,
                x -> x.prove(30, 3, h, 5));
            checks.badState("of a jailed node: prove(30, 3, " + h + ", 5)", SetUp::proveAll,
                x -> x.prove(30, 3, h, 5));
        }
    }
}
