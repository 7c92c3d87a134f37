/** Promise 13. */
public final class ShareTest {
    public static void main(String[] args) {
        Checks checks = new Checks();
        equalPowers(checks);
        everyNode(checks);
        otherBits(checks);
        aThird(checks);
        twoThirds(checks);
        jailed(checks);
        allJailed(checks);
        noBonds(checks);
        nothingChanges(checks);
        checks.end();
    }

    private static void equalPowers(Checks checks) {
        StakeLedger x = new StakeLedger();
        checks.due("share(0)", x.share(0), 0);
        checks.due("5 of 16", x.share(0b11111), 0);
        checks.due("6 of 16", x.share(0b111111), 1);
        checks.due("10 of 16", x.share(0b1111111111), 1);
        checks.due("11 of 16", x.share(0b11111111111), 2);
        checks.due("11 others of 16", x.share(0xFFE0), 2);
        checks.due("share(65535)", x.share(65535), 2);
    }

    /** Each bit is that of its own node: the one that has over a third. */
    private static void everyNode(Checks checks) {
        for (int n = 0; n < 16; n++) {
            StakeLedger x = new StakeLedger();
            x.bond(20, n, 800, 0);
            for (int bit = 0; bit < 16; bit++) {
                checks.due("share of " + bit + " when " + n + " has more", x.share(1 << bit), bit == n ? 1 : 0);
            }
        }
    }

    /** "(other bits mean nothing)". */
    private static void otherBits(Checks checks) {
        StakeLedger x = new StakeLedger();
        checks.due("share(-1)", x.share(-1), 2);
        checks.due("share(MIN)", x.share(Integer.MIN_VALUE), 0);
        checks.due("share(MAX)", x.share(Integer.MAX_VALUE), 2);
        checks.due("other bits alone", x.share(0xFFFF0000), 0);
        checks.due("bit 16 beside 5", x.share(0x1001F), 0);
        for (int bit = 16; bit < 32; bit++) {
            checks.due("bit " + bit + " alone", x.share(1 << bit), 0);
            checks.due("bit " + bit + " beside 5", x.share(1 << bit | 0x1F), 0);
            checks.due("bit " + bit + " beside 6", x.share(1 << bit | 0x3F), 1);
            checks.due("bit " + bit + " beside 10", x.share(1 << bit | 0x3FF), 1);
            checks.due("bit " + bit + " beside 11", x.share(1 << bit | 0x7FF), 2);
        }
    }

    /** "1 if it is above that of all": of 1500 a third is 500. */
    private static void aThird(Checks checks) {
        StakeLedger x = new StakeLedger();
        x.unbond(15, 15, 100, 0);
        checks.due("just a third", x.share(0x1F), 0);
        x.bond(20, 0, 1, 0);
        checks.due("a little above a third", x.share(0x1F), 1);
        checks.due("a little below a third", x.share(0x3E), 0);
    }

    /** "2 if three times their POWERS is above two times that of all": of 1500 two thirds are 1000. */
    private static void twoThirds(Checks checks) {
        StakeLedger x = new StakeLedger();
        x.unbond(15, 15, 100, 0);
        checks.due("just two thirds", x.share(0x3FF), 1);
        x.bond(20, 0, 1, 0);
        checks.due("a little above two thirds", x.share(0x3FF), 2);
        checks.due("a little below two thirds", x.share(0x7FE), 1);
    }

    private static void jailed(Checks checks) {
        StakeLedger x = new StakeLedger();
        x.next();
        for (int n = 0; n < 13; n++) {
            x.prove(50, n, 1, 0);
        }
        checks.due("those that are jailed", x.share(0x1FFF), 0);
        checks.due("1 of 3", x.share(0x3FFF), 0);
        checks.due("2 of 3", x.share(0xC000), 1);
        checks.due("3 of 3", x.share(0xE000), 2);
    }

    /** 0 is not above 0. */
    private static void allJailed(Checks checks) {
        StakeLedger x = new StakeLedger();
        SetUp.proveAll(x);
        checks.due("share(65535)", x.share(65535), 0);
        checks.due("share(0)", x.share(0), 0);
        checks.due("share(-1)", x.share(-1), 0);
    }

    private static void noBonds(Checks checks) {
        StakeLedger x = new StakeLedger();
        SetUp.unbondAll(x);
        checks.due("share(65535)", x.share(65535), 0);
        checks.due("share(0)", x.share(0), 0);
        x.bond(20, 6, 1, 0);
        checks.due("all of a power of 1", x.share(1 << 6), 2);
        checks.due("nothing of a power of 1", x.share(~(1 << 6)), 0);
    }

    private static void nothingChanges(Checks checks) {
        checks.same("after share", x -> {
            SetUp.busy(x);
            x.share(-1);
            x.share(0);
        }, SetUp::busy);
    }
}
