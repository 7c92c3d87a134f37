/** Promise 5. */
public final class FreeTest {
    public static void main(String[] args) {
        Checks checks = new Checks();
        oneOfMany(checks);
        nodeWithoutBonds(checks);
        provedHeightStays(checks);
        wrongArguments(checks);
        refusals(checks);
        checks.end();
    }

    private static void oneOfMany(Checks checks) {
        StakeLedger x = new StakeLedger();
        SetUp.proveAll(x);
        checks.due("sum(16)", x.sum(16), 65535);
        checks.due("free(20, 3, 5)", x.free(20, 3, 5), 75);
        checks.due("sum(16)", x.sum(16), 65535 - 8);
        checks.due("sum(3)", x.sum(3), 75);
        checks.due("account(20, 0)", x.account(20, 0), 999);
        checks.due("account(5, 0)", x.account(5, 0), 1001);
        checks.due("free(199, 15, 15)", x.free(199, 15, 15), 75);
        checks.due("free(0, 0, 0)", x.free(0, 0, 0), 75);
        checks.due("sum(16)", x.sum(16), 32766 - 8);
        checks.due("account(0, 0)", x.account(0, 0), 1016);
    }

    private static void nodeWithoutBonds(Checks checks) {
        StakeLedger x = new StakeLedger();
        SetUp.proveAll(x);
        x.unbond(3, 3, 75, 5);
        checks.due("free(20, 3, 5)", x.free(20, 3, 5), 0);
        checks.due("sum(16)", x.sum(16), 65535 - 8);
    }

    private static void provedHeightStays(Checks checks) {
        checks.badState("prove(20, 3, 1, 5) after free", x -> {
            SetUp.proveAll(x);
            x.free(20, 3, 5);
        }, x -> x.prove(20, 3, 1, 5));
    }

    private static void wrongArguments(Checks checks) {
        checks.badArgument("free(-1, 0, 0)", x -> x.free(-1, 0, 0));
        checks.badArgument("free(200, 0, 0)", x -> x.free(200, 0, 0));
        checks.badArgument("free(0, -1, 0)", x -> x.free(0, -1, 0));
        checks.badArgument("free(0, 16, 0)", x -> x.free(0, 16, 0));
        checks.badArgument("free(0, 0, -1)", x -> x.free(0, 0, -1));
        checks.badArgument("free(0, 0, 16)", x -> x.free(0, 0, 16));
    }

    private static void refusals(Checks checks) {
        checks.badState("free(20, 3, 5) of a free node", Checks.NOTHING, x -> x.free(20, 3, 5));
        checks.badState("free(20, 4, 5) beside a jailed node", x -> {
            x.next();
            x.prove(20, 3, 1, 5);
        }, x -> x.free(20, 4, 5));
        checks.badState("free(20, 3, 5) with 0", x -> {
            SetUp.proveAll(x);
            SetUp.drain(x, 20);
        }, x -> x.free(20, 3, 5));
        checks.badState("free(4, 3, 4) with 0", x -> {
            SetUp.proveAll(x);
            SetUp.drain(x, 4);
        }, x -> x.free(4, 3, 4));
    }
}
