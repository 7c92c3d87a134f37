/** States that several tests begin with. */
final class SetUp {
    private SetUp() {
    }

    static void drain(StakeLedger x, int a) {
        leave(x, a, 0);
    }

    /** Account a keeps just so much, and another has the rest. */
    static void leave(StakeLedger x, int a, int balance) {
        int to = a == 15 ? 14 : 15;
        x.pay(a, to, x.account(a, 0) - 1 - balance, to);
    }

    static void nextTimes(StakeLedger x, int times) {
        for (int i = 0; i < times; i++) {
            x.next();
        }
    }

    /** Bonds of 5 up to the 96th, 80 beside the first 16: account 30 + i with node i mod 16. */
    static void fillBonds(StakeLedger x) {
        int places = 96 - x.sum(19);
        for (int i = 0; i < places; i++) {
            x.bond(30 + i, i % 16, 5, 0);
        }
    }

    /** Returns of 3 up to the 32nd: on a new object two of each account 0 to 15. */
    static void fillReturns(StakeLedger x) {
        int places = 32 - x.sum(18);
        for (int i = 0; i < places; i++) {
            x.unbond(i % 16, i % 16, 3, 0);
        }
    }

    /** At the next height, which is 1 on a new object. */
    static void proveAll(StakeLedger x) {
        x.next();
        int height = x.sum(21);
        for (int n = 0; n < 16; n++) {
            x.prove(100, n, height, 0);
        }
    }

    /** The first 16 bonds are gone, so there is none. */
    static void unbondAll(StakeLedger x) {
        for (int n = 0; n < 16; n++) {
            x.unbond(n, n, 100, n);
        }
    }

    /**
     * Something of everything at height 3: bonds beside the first ones, returns that are due at 4, 5
     * and 7, nodes 0 and 15 jailed with proved height 1, two kept states that differ from all others.
     */
    static void busy(StakeLedger x) {
        x.pay(50, 51, 10, 1);
        x.bond(0, 3, 40, 1);
        x.bond(199, 3, 9, 1);
        x.bond(20, 0, 31, 2);
        x.bond(20, 15, 30, 2);
        x.keep(0);
        x.unbond(4, 4, 90, 2);
        x.next();
        x.unbond(5, 5, 7, 2);
        x.prove(52, 0, 1, 3);
        x.prove(52, 15, 1, 3);
        x.keep(7);
        nextTimes(x, 2);
        x.unbond(6, 6, 8, 2);
    }
}
