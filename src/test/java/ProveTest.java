/** Promise 6. */
public final class ProveTest {
    public static void main(String[] args) {
        Checks checks = new Checks();
        quarterOfEachBond(checks);
        smallBonds(checks);
        returnsAreSafe(checks);
        provedAgain(checks);
        nodeWithoutBonds(checks);
        wrongArguments(checks);
        refusals(checks);
        checks.end();
    }

    private static void quarterOfEachBond(Checks checks) {
        StakeLedger x = new StakeLedger();
        x.bond(20, 3, 7, 0);
        x.bond(21, 3, 11, 0);
        x.bond(20, 4, 50, 0);
        x.next();
        checks.due("prove(30, 3, 1, 5)", x.prove(30, 3, 1, 5), 28);
        checks.due("account(3, 4)", x.account(3, 4), 75);
        checks.due("account(20, 4)", x.account(20, 4), 6);
        checks.due("account(21, 4)", x.account(21, 4), 9);
        checks.due("account(20, 5)", x.account(20, 5), 50);
        checks.due("sum(3)", x.sum(3), 0);
        checks.due("sum(4)", x.sum(4), 150);
        checks.due("sum(16)", x.sum(16), 8);
        checks.due("sum(17)", x.sum(17), 28);
        checks.due("sum(20)", x.sum(20), 201600);
        checks.due("account(30, 0)", x.account(30, 0), 999);
        checks.due("account(5, 0)", x.account(5, 0), 1001);
        checks.due("prove(199, 15, 1, 15)", x.prove(199, 15, 1, 15), 25);
        checks.due("sum(16)", x.sum(16), 32776);
        checks.due("sum(17)", x.sum(17), 53);
    }

    private static void smallBonds(Checks checks) {
        StakeLedger x = new StakeLedger();
        x.unbond(3, 3, 100, 0);
        for (int v = 1; v <= 5; v++) {
            x.bond(19 + v, 3, v, 0);
        }
        x.next();
        checks.due("prove(30, 3, 1, 5)", x.prove(30, 3, 1, 5), 2);
        checks.due("account(20, 4)", x.account(20, 4), 1);
        checks.due("account(22, 4)", x.account(22, 4), 3);
        checks.due("account(23, 4)", x.account(23, 4), 3);
        checks.due("account(24, 4)", x.account(24, 4), 4);
        checks.due("sum(19)", x.sum(19), 20);
    }

    private static void returnsAreSafe(Checks checks) {
        StakeLedger x = new StakeLedger();
        x.unbond(3, 3, 60, 0);
        x.next();
        checks.due("prove(30, 3, 1, 5)", x.prove(30, 3, 1, 5), 10);
        checks.due("account(3, 17)", x.account(3, 17), 60);
    }

    private static void provedAgain(Checks checks) {
        StakeLedger x = new StakeLedger();
        SetUp.nextTimes(x, 5);
        checks.due("prove(30, 3, 2, 5)", x.prove(30, 3, 2, 5), 25);
        checks.due("prove(30, 3, 3, 5) while it is jailed", x.prove(30, 3, 3, 5), 18);
        checks.due("free(30, 3, 5)", x.free(30, 3, 5), 57);
        checks.due("prove(30, 3, 5, 5)", x.prove(30, 3, 5, 5), 14);
        checks.due("sum(16)", x.sum(16), 8);
        checks.due("another's height is its own: prove(30, 4, 1, 5)", x.prove(30, 4, 1, 5), 25);
        checks.due("sum(17)", x.sum(17), 82);
    }

    private static void nodeWithoutBonds(Checks checks) {
        StakeLedger x = new StakeLedger();
        x.unbond(3, 3, 100, 0);
        x.next();
        checks.due("prove(30, 3, 1, 5)", x.prove(30, 3, 1, 5), 0);
        checks.due("sum(16)", x.sum(16), 8);
    }

    private static void wrongArguments(Checks checks) {
        checks.badArgument("prove(-1, 0, 1, 0)", x -> x.prove(-1, 0, 1, 0));
        checks.badArgument("prove(200, 0, 1, 0)", x -> x.prove(200, 0, 1, 0));
        checks.badArgument("prove(0, -1, 1, 0)", x -> x.prove(0, -1, 1, 0));
        checks.badArgument("prove(0, 16, 1, 0)", x -> x.prove(0, 16, 1, 0));
        checks.badArgument("prove(0, 0, 1, -1)", x -> x.prove(0, 0, 1, -1));
        checks.badArgument("prove(0, 0, 1, 16)", x -> x.prove(0, 0, 1, 16));
    }

    private static void refusals(Checks checks) {
        checks.badState("prove(30, 3, 0, 5)", Checks.NOTHING, x -> x.prove(30, 3, 0, 5));
        checks.badState("prove(30, 3, -1, 5)", StakeLedger::next, x -> x.prove(30, 3, -1, 5));
        checks.badState("prove(30, 3, MIN, 5)", StakeLedger::next, x -> x.prove(30, 3, Integer.MIN_VALUE, 5));
        checks.badState("prove(30, 3, MAX, 5)", StakeLedger::next, x -> x.prove(30, 3, Integer.MAX_VALUE, 5));
        checks.badState("prove(30, 3, 2, 5) at 1", StakeLedger::next, x -> x.prove(30, 3, 2, 5));
        checks.badState("prove(30, 3, 1, 5) twice", SetUp::proveAll, x -> x.prove(30, 3, 1, 5));
        checks.badState("prove(30, 3, 1, 5) behind 2", x -> {
            SetUp.nextTimes(x, 3);
            x.prove(30, 3, 2, 5);
        }, x -> x.prove(30, 3, 1, 5));
        checks.badState("prove(30, 3, 1, 5) with 0", x -> {
            x.next();
            SetUp.drain(x, 30);
        }, x -> x.prove(30, 3, 1, 5));
        checks.badState("prove(4, 3, 1, 4) with 0", x -> {
            x.next();
            SetUp.drain(x, 4);
        }, x -> x.prove(4, 3, 1, 4));
    }
}
