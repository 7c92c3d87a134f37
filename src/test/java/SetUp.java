/** States that several tests begin with. */
final class SetUp {
    private SetUp() {
    }

    /** Account a has nothing left and all is with account 15. */
    static void drain(StakeLedger x, int a) {
        x.pay(a, 15, 999, 15);
    }

    static void nextTimes(StakeLedger x, int times) {
        for (int i = 0; i < times; i++) {
            x.next();
        }
    }

    /** 80 bonds of 5 beside the first 16: account 30 + i with node i mod 16. */
    static void fillBonds(StakeLedger x) {
        for (int i = 0; i < 80; i++) {
            x.bond(30 + i, i % 16, 5, 0);
        }
    }

    /** 32 returns of 3, two of each account 0 to 15. */
    static void fillReturns(StakeLedger x) {
        for (int i = 0; i < 32; i++) {
            x.unbond(i % 16, i % 16, 3, 0);
        }
    }

    static void proveAll(StakeLedger x) {
        x.next();
        for (int n = 0; n < 16; n++) {
            x.prove(100, n, 1, 0);
        }
    }
}
