/** Promise 12, and what the terms say of the PROPOSER. */
public final class ProposerTest {
    public static void main(String[] args) {
        Checks checks = new Checks();
        equalPowers(checks);
        everyNode(checks);
        above(checks);
        wrapAround(checks);
        firstNode(checks);
        lastNodeWithPower(checks);
        allJailed(checks);
        noBonds(checks);
        ofTheStateThatGoesOn(checks);
        heights(checks);
        rounds(checks);
        nothingChanges(checks);
        checks.end();
    }

    private static void equalPowers(Checks checks) {
        StakeLedger x = new StakeLedger();
        checks.due("proposer(0, 0)", x.proposer(0, 0), 0);
        checks.due("131 of 1600: proposer(1, 0)", x.proposer(1, 0), 1);
        checks.due("307 of 1600: proposer(0, 1)", x.proposer(0, 1), 3);
        checks.due("58 of 1600: proposer(0, 94)", x.proposer(0, 94), 0);
        checks.due("438 of 1600: proposer(1, 1)", x.proposer(1, 1), 4);
        checks.due("1572 of 1600: proposer(12, 0)", x.proposer(12, 0), 15);
        checks.due("103 of 1600: proposer(13, 0)", x.proposer(13, 0), 1);
        checks.due("300 of 1600: proposer(100, 0)", x.proposer(100, 0), 3);
        checks.due("1162 of 1600: proposer(999999, 999999)", x.proposer(999999, 999999), 11);
    }

    private static void everyNode(Checks checks) {
        StakeLedger x = new StakeLedger();
        for (int h = 0; h < 200; h++) {
            checks.due("proposer(" + h + ", 0)", x.proposer(h, 0), 131 * h % 1600 / 100);
            checks.due("proposer(0, " + h + ")", x.proposer(0, h), 307 * h % 1600 / 100);
        }
    }

    /** "the first NODE at which the sum of POWERS from NODE 0 on is above": node 0 decides, then node 1. */
    private static void above(Checks checks) {
        StakeLedger x = new StakeLedger();
        x.bond(20, 0, 31, 0);
        checks.due("131 is not above 131: proposer(1, 0)", x.proposer(1, 0), 1);
        x.bond(20, 0, 1, 0);
        checks.due("132 is above 131: proposer(1, 0)", x.proposer(1, 0), 0);
        checks.due("232 is not above 262: proposer(2, 0)", x.proposer(2, 0), 2);
        x.bond(20, 1, 30, 0);
        checks.due("262 is not above 262: proposer(2, 0)", x.proposer(2, 0), 2);
        x.bond(20, 1, 1, 0);
        checks.due("263 is above 262: proposer(2, 0)", x.proposer(2, 0), 1);
    }

    /** "mod the sum of all": 13 times 131 is 1703, 5 times 307 is 1535. */
    private static void wrapAround(Checks checks) {
        StakeLedger x = new StakeLedger();
        x.bond(20, 7, 103, 0);
        checks.due("1703 of 1703: proposer(13, 0)", x.proposer(13, 0), 0);
        x.bond(20, 7, 1, 0);
        checks.due("1703 of 1704: proposer(13, 0)", x.proposer(13, 0), 15);
        x.unbond(20, 7, 2, 0);
        checks.due("1703 of 1702: proposer(13, 0)", x.proposer(13, 0), 0);
        x.unbond(0, 0, 99, 0);
        checks.due("1703 of 1603 is 100, and node 1 ends at 101: proposer(13, 0)", x.proposer(13, 0), 1);
        StakeLedger y = new StakeLedger();
        y.unbond(7, 7, 65, 0);
        checks.due("1535 of 1535: proposer(0, 5)", y.proposer(0, 5), 0);
        y.bond(20, 7, 1, 0);
        checks.due("1535 of 1536: proposer(0, 5)", y.proposer(0, 5), 15);
    }

    /** A node without power, jailed or not, is never the one. */
    private static void firstNode(Checks checks) {
        StakeLedger x = new StakeLedger();
        x.next();
        x.prove(50, 0, 1, 0);
        x.unbond(1, 1, 100, 0);
        checks.due("proposer(0, 0)", x.proposer(0, 0), 2);
        checks.due("131 of 1400: proposer(1, 0)", x.proposer(1, 0), 3);
        checks.due("41 of 1400: proposer(11, 0)", x.proposer(11, 0), 2);
        x.free(50, 0, 0);
        checks.due("proposer(0, 0) after free", x.proposer(0, 0), 0);
    }

    private static void lastNodeWithPower(Checks checks) {
        StakeLedger x = new StakeLedger();
        SetUp.proveAll(x);
        x.free(50, 15, 0);
        checks.due("node 15 alone: proposer(0, 0)", x.proposer(0, 0), 15);
        checks.due("node 15 alone: proposer(5, 7)", x.proposer(5, 7), 15);
        x.unbond(15, 15, 74, 0);
        checks.due("with a power of 1: proposer(5, 7)", x.proposer(5, 7), 15);
        x.free(50, 0, 0);
        checks.due("51 of 76: proposer(52, 1)", x.proposer(52, 1), 0);
        checks.due("75 of 76: proposer(29, 0)", x.proposer(29, 0), 15);
    }

    /** "(none if that is 0)" and "-1 without": the bonds are there, but no power. */
    private static void allJailed(Checks checks) {
        StakeLedger x = new StakeLedger();
        SetUp.proveAll(x);
        checks.due("proposer(0, 0)", x.proposer(0, 0), -1);
        checks.due("proposer(5, 7)", x.proposer(5, 7), -1);
        checks.due("proposer(1000000, 1000000)", x.proposer(1000000, 1000000), -1);
        x.free(50, 9, 0);
        checks.due("node 9 alone: proposer(5, 7)", x.proposer(5, 7), 9);
        x.unbond(9, 9, 75, 0);
        checks.due("node 9 without bonds: proposer(5, 7)", x.proposer(5, 7), -1);
        checks.refused("proposer(-1, 0) without power", Checks.ARGUMENT, SetUp::proveAll, y -> y.proposer(-1, 0));
        checks.refused("proposer(0, 1000001) without power", Checks.ARGUMENT, SetUp::proveAll,
            y -> y.proposer(0, 1000001));
    }

    private static void noBonds(Checks checks) {
        StakeLedger x = new StakeLedger();
        SetUp.unbondAll(x);
        checks.due("proposer(0, 0)", x.proposer(0, 0), -1);
        checks.due("proposer(5, 7)", x.proposer(5, 7), -1);
        x.bond(20, 6, 1, 0);
        checks.due("node 6 alone: proposer(5, 7)", x.proposer(5, 7), 6);
    }

    private static void ofTheStateThatGoesOn(Checks checks) {
        StakeLedger x = new StakeLedger();
        x.bond(20, 0, 500, 0);
        checks.due("proposer(1, 0)", x.proposer(1, 0), 0);
        x.next();
        checks.due("proposer(1, 0) at height 1", x.proposer(1, 0), 0);
        x.back(0);
        checks.due("proposer(1, 0) after back(0)", x.proposer(1, 0), 1);
    }

    /** "IllegalArgumentException if h is not 0 to 1000000". */
    private static void heights(Checks checks) {
        StakeLedger x = new StakeLedger();
        x.bond(20, 0, 3, 0);
        checks.due("1237 of 1603: proposer(1000000, 0)", x.proposer(1000000, 0), 12);
        checks.due("1089 of 1603: proposer(1000000, 1000000)", x.proposer(1000000, 1000000), 10);
        checks.badArgument("proposer(-1, 0)", y -> y.proposer(-1, 0));
        checks.badArgument("proposer(1000001, 0)", y -> y.proposer(1000001, 0));
        checks.range("proposer(h, 0)", 0, 1000000, Checks.ARGUMENT, (y, h) -> y.proposer(h, 0));
        checks.range("proposer(h, 1000000)", 0, 1000000, Checks.ARGUMENT, (y, h) -> y.proposer(h, 1000000));
    }

    /** "or r not 0 to 1000000". */
    private static void rounds(Checks checks) {
        StakeLedger x = new StakeLedger();
        x.bond(20, 0, 3, 0);
        checks.due("1455 of 1603: proposer(0, 1000000)", x.proposer(0, 1000000), 14);
        checks.badArgument("proposer(0, -1)", y -> y.proposer(0, -1));
        checks.badArgument("proposer(0, 1000001)", y -> y.proposer(0, 1000001));
        checks.range("proposer(0, r)", 0, 1000000, Checks.ARGUMENT, (y, r) -> y.proposer(0, r));
        checks.range("proposer(1000000, r)", 0, 1000000, Checks.ARGUMENT, (y, r) -> y.proposer(1000000, r));
        checks.badArgument("proposer(MIN, MAX)", y -> y.proposer(Integer.MIN_VALUE, Integer.MAX_VALUE));
    }

    private static void nothingChanges(Checks checks) {
        checks.same("after proposer", x -> {
            SetUp.busy(x);
            x.proposer(3, 0);
            x.proposer(1000000, 1000000);
        }, SetUp::busy);
    }
}
