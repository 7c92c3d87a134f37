/** Promise 12. */
public final class ProposerTest {
    public static void main(String[] args) {
        Checks checks = new Checks();
        equalPowers(checks);
        edgesOfPower(checks);
        jailedAndEmpty(checks);
        withoutPower(checks);
        ofTheStateThatGoesOn(checks);
        wrongInputs(checks);
        checks.end();
    }

    private static void equalPowers(Checks checks) {
        StakeLedger x = new StakeLedger();
        checks.due("proposer(0, 0)", x.proposer(0, 0), 0);
        checks.due("131 of 1600: proposer(1, 0)", x.proposer(1, 0), 1);
        checks.due("307 of 1600: proposer(0, 1)", x.proposer(0, 1), 3);
        checks.due("58 of 1600: proposer(0, 94)", x.proposer(0, 94), 0);
        checks.due("438 of 1600: proposer(1, 1)", x.proposer(1, 1), 4);
        checks.due("1572 of 1600: proposer(12, 0)", x.proposer(12, 0), 15);
        checks.due("103 of 1600: proposer(13, 0)", x.proposer(13, 0), 1);
        checks.due("300 of 1600: proposer(100, 0)", x.proposer(100, 0), 3);
        checks.due("proposer(1000000, 0)", x.proposer(1000000, 0), 0);
        checks.due("proposer(0, 1000000)", x.proposer(0, 1000000), 0);
        checks.due("proposer(1000000, 1000000)", x.proposer(1000000, 1000000), 0);
        checks.due("1162 of 1600: proposer(999999, 999999)", x.proposer(999999, 999999), 11);
    }

    /** Node 0 has just the power that decides between it and the next. */
    private static void edgesOfPower(Checks checks) {
        StakeLedger x = new StakeLedger();
        x.bond(20, 0, 31, 0);
        checks.due("131 is not above 131: proposer(1, 0)", x.proposer(1, 0), 1);
        x.bond(20, 0, 1, 0);
        checks.due("132 is above 131: proposer(1, 0)", x.proposer(1, 0), 0);
        checks.due("262 of 1632: proposer(2, 0)", x.proposer(2, 0), 2);
    }

    private static void jailedAndEmpty(Checks checks) {
        StakeLedger x = new StakeLedger();
        x.next();
        x.prove(50, 0, 1, 0);
        x.unbond(1, 1, 100, 0);
        checks.due("proposer(0, 0)", x.proposer(0, 0), 2);
        checks.due("131 of 1400: proposer(1, 0)", x.proposer(1, 0), 3);
        checks.due("41 of 1400: proposer(11, 0)", x.proposer(11, 0), 2);
        x.free(50, 0, 0);
        checks.due("proposer(0, 0) after free", x.proposer(0, 0), 0);
    }

    private static void withoutPower(Checks checks) {
        StakeLedger x = new StakeLedger();
        SetUp.proveAll(x);
        checks.due("all are jailed: proposer(0, 0)", x.proposer(0, 0), -1);
        checks.due("all are jailed: proposer(5, 7)", x.proposer(5, 7), -1);
        x.free(50, 9, 0);
        checks.due("node 9 alone: proposer(5, 7)", x.proposer(5, 7), 9);
        x.unbond(9, 9, 74, 0);
        checks.due("node 9 with a power of 1: proposer(5, 7)", x.proposer(5, 7), 9);
        x.unbond(9, 9, 1, 0);
        checks.due("node 9 without bonds: proposer(5, 7)", x.proposer(5, 7), -1);
    }

    private static void ofTheStateThatGoesOn(Checks checks) {
        StakeLedger x = new StakeLedger();
        x.bond(20, 0, 500, 0);
        checks.due("proposer(1, 0)", x.proposer(1, 0), 0);
        x.back(0);
        checks.due("proposer(1, 0) after back(0)", x.proposer(1, 0), 1);
    }

    private static void wrongInputs(Checks checks) {
        checks.badArgument("proposer(-1, 0)", x -> x.proposer(-1, 0));
        checks.badArgument("proposer(0, -1)", x -> x.proposer(0, -1));
        checks.badArgument("proposer(1000001, 0)", x -> x.proposer(1000001, 0));
        checks.badArgument("proposer(0, 1000001)", x -> x.proposer(0, 1000001));
        checks.badArgument("proposer(MIN, MAX)", x -> x.proposer(Integer.MIN_VALUE, Integer.MAX_VALUE));
        checks.refused("proposer(-1, 0) without power", IllegalArgumentException.class,
            SetUp::proveAll, x -> x.proposer(-1, 0));
    }
}
