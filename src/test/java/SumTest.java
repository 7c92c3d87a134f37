/** Promise 11. */
public final class SumTest {
    public static void main(String[] args) {
        Checks checks = new Checks();
        ordinary(checks);
        allJailed(checks);
        full(checks);
        empty(checks);
        nothingIsLost(checks);
        others(checks);
        nothingChanges(checks);
        checks.end();
    }

    private static void ordinary(Checks checks) {
        StakeLedger x = new StakeLedger();
        x.bond(20, 0, 5, 0);
        x.bond(21, 0, 6, 0);
        x.bond(20, 15, 7, 0);
        x.unbond(2, 2, 100, 0);
        x.unbond(3, 3, 1, 0);
        SetUp.nextTimes(x, 3);
        x.prove(50, 0, 1, 0);
        x.prove(50, 4, 3, 0);
        checks.due("sum(0)", x.sum(0), 0);
        checks.due("sum(1)", x.sum(1), 100);
        checks.due("sum(2)", x.sum(2), 0);
        checks.due("sum(3)", x.sum(3), 99);
        checks.due("sum(4)", x.sum(4), 0);
        checks.due("sum(15)", x.sum(15), 107);
        checks.due("sum(16)", x.sum(16), 17);
        checks.due("sum(17)", x.sum(17), 52);
        checks.due("sum(18)", x.sum(18), 2);
        checks.due("sum(19)", x.sum(19), 18);
        checks.due("sum(20)", x.sum(20), 201600);
        checks.due("sum(21)", x.sum(21), 3);
    }

    private static void allJailed(Checks checks) {
        StakeLedger x = new StakeLedger();
        SetUp.proveAll(x);
        for (int n = 0; n < 16; n++) {
            checks.due("sum(" + n + ")", x.sum(n), 0);
        }
        checks.due("sum(16)", x.sum(16), 65535);
        checks.due("sum(17)", x.sum(17), 400);
        checks.due("bonds with jailed nodes are bonds: sum(19)", x.sum(19), 16);
        checks.due("sum(20)", x.sum(20), 201600);
    }

    private static void full(Checks checks) {
        StakeLedger x = new StakeLedger();
        SetUp.fillBonds(x);
        SetUp.fillReturns(x);
        for (int n = 0; n < 16; n++) {
            checks.due("sum(" + n + ")", x.sum(n), 119);
        }
        checks.due("sum(18)", x.sum(18), 32);
        checks.due("sum(19)", x.sum(19), 96);
        checks.due("sum(20)", x.sum(20), 201600);
    }

    private static void empty(Checks checks) {
        StakeLedger x = new StakeLedger();
        SetUp.unbondAll(x);
        for (int n = 0; n < 16; n++) {
            checks.due("sum(" + n + ")", x.sum(n), 0);
        }
        checks.due("not jailed for it: sum(16)", x.sum(16), 0);
        checks.due("sum(18)", x.sum(18), 16);
        checks.due("sum(19)", x.sum(19), 0);
        checks.due("sum(20)", x.sum(20), 201600);
        SetUp.nextTimes(x, 4);
        checks.due("sum(18)", x.sum(18), 0);
        checks.due("sum(20)", x.sum(20), 201600);
    }

    private static void nothingIsLost(Checks checks) {
        StakeLedger x = new StakeLedger();
        for (int i = 0; i < 80; i++) {
            x.bond(i, i % 7, 1 + i, i % 16);
            x.next();
            x.prove(199 - i, i % 7, i + 1, i % 16);
            x.unbond(i, i % 7, 1 + i / 2, i % 16);
            checks.due("sum(20)", x.sum(20), 201600);
        }
    }

    /** "IllegalArgumentException for others." */
    private static void others(Checks checks) {
        checks.badArgument("sum(-1)", x -> x.sum(-1));
        checks.badArgument("sum(22)", x -> x.sum(22));
        checks.range("sum(what)", 0, 21, Checks.ARGUMENT, StakeLedger::sum);
    }

    private static void nothingChanges(Checks checks) {
        checks.same("after sum", x -> {
            SetUp.busy(x);
            for (int what = 0; what <= 21; what++) {
                x.sum(what);
            }
        }, SetUp::busy);
    }
}
