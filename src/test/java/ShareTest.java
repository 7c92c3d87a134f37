/** Promise 13. */
public final class ShareTest {
    public static void main(String[] args) {
        Checks checks = new Checks();
        equalPowers(checks);
        edges(checks);
        jailed(checks);
        withoutPower(checks);
        checks.end();
    }

    private static void equalPowers(Checks checks) {
        StakeLedger x = new StakeLedger();
        checks.due("share(0)", x.share(0), 0);
        checks.due("5 of 16", x.share(0b11111), 0);
        checks.due("6 of 16", x.share(0b111111), 1);
        checks.due("10 of 16", x.share(0b1111111111), 1);
        checks.due("11 of 16", x.share(0b11111111111), 2);
        checks.due("11 others of 16", x.share(0xFFE0), 2);
        checks.due("share(65535)", x.share(65535), 2);
        checks.due("share(-1)", x.share(-1), 2);
        checks.due("other bits alone", x.share(0xFFFF0000), 0);
        checks.due("other bits beside 6", x.share(0x7FFF003F), 1);
        checks.due("other bits beside 5", x.share(0x8001001F), 0);
    }

    /** All is 1500: a third is 500, two thirds are 1000. */
    private static void edges(Checks checks) {
        StakeLedger x = new StakeLedger();
        x.unbond(15, 15, 100, 0);
        checks.due("just a third", x.share(0x1F), 0);
        checks.due("just two thirds", x.share(0x3FF), 1);
        x.bond(20, 0, 1, 0);
        checks.due("a little above a third", x.share(0x1F), 1);
        checks.due("a little above two thirds", x.share(0x3FF), 2);
        checks.due("a little below a third", x.share(0x3E), 0);
        checks.due("a little below two thirds", x.share(0x7FE), 1);
    }

    private static void jailed(Checks checks) {
        StakeLedger x = new StakeLedger();
        x.next();
        for (int n = 0; n < 13; n++) {
            x.prove(50, n, 1, 0);
        }
        checks.due("those that are jailed", x.share(0x1FFF), 0);
        checks.due("1 of 3", x.share(0x3FFF), 0);
        checks.due("2 of 3", x.share(0xC000), 1);
        checks.due("3 of 3", x.share(0xE000), 2);
    }

    private static void withoutPower(Checks checks) {
        StakeLedger x = new StakeLedger();
        SetUp.proveAll(x);
        checks.due("share(65535) without power", x.share(65535), 0);
        checks.due("share(0) without power", x.share(0), 0);
    }
}
