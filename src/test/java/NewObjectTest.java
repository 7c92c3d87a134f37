import java.util.function.Consumer;

/** Promise 1. */
public final class NewObjectTest {
    public static void main(String[] args) {
        Checks checks = new Checks();
        balances(checks);
        bonds(checks);
        sums(checks);
        provedHeights(checks);
        keptStates(checks);
        objectsAreApart(checks);
        payThrowsTheFirst(checks);
        bondThrowsTheFirst(checks);
        unbondThrowsTheFirst(checks);
        freeThrowsTheFirst(checks);
        proveThrowsTheFirst(checks);
        lastCall(checks);
        checks.end();
    }

    /** "of each ACCOUNT a BALANCE (1000 at first)", and no RETURN. */
    private static void balances(Checks checks) {
        StakeLedger x = new StakeLedger();
        for (int a = 0; a < 200; a++) {
            checks.due("account(" + a + ", 0)", x.account(a, 0), 1000);
            checks.due("account(" + a + ", 17)", x.account(a, 17), 0);
        }
    }

    /** "at first ACCOUNT n has one of 100 with NODE n, n 0 to 15". */
    private static void bonds(Checks checks) {
        for (int from = 0; from < 200; from += 25) {
            StakeLedger x = new StakeLedger();
            for (int a = from; a < from + 25; a++) {
                for (int n = 0; n < 16; n++) {
                    int want = a == n ? 100 : 0;
                    checks.due("account(" + a + ", " + (n + 1) + ")", x.account(a, n + 1), want);
                }
            }
        }
    }

    private static void sums(Checks checks) {
        StakeLedger x = new StakeLedger();
        for (int n = 0; n < 16; n++) {
            checks.due("sum(" + n + ")", x.sum(n), 100);
        }
        checks.due("sum(16)", x.sum(16), 0);
        checks.due("sum(17)", x.sum(17), 0);
        checks.due("sum(18)", x.sum(18), 0);
        checks.due("sum(19)", x.sum(19), 16);
        checks.due("sum(20)", x.sum(20), 201600);
        checks.due("sum(21)", x.sum(21), 0);
    }

    /** "a PROVED HEIGHT (0 at first)": 1 can be proved of each node. */
    private static void provedHeights(Checks checks) {
        StakeLedger x = new StakeLedger();
        x.next();
        for (int n = 0; n < 16; n++) {
            checks.due("prove(50, " + n + ", 1, 0)", x.prove(50, n, 1, 0), 25);
        }
    }

    /** "The first STATE; the eight that are kept are such ones, too." */
    private static void keptStates(Checks checks) {
        for (int k = 0; k < 8; k++) {
            int number = k;
            checks.same("after back(" + k + ")", x -> {
                x.bond(20, 3, 40, 1);
                x.unbond(4, 4, 100, 2);
                SetUp.nextTimes(x, 3);
                x.prove(50, 3, 2, 3);
                x.back(number);
            }, Checks.NOTHING);
            checks.taken("the proved height is 0 again: prove(50, 3, 1, 3)", 25, x -> {
                SetUp.nextTimes(x, 3);
                x.prove(50, 3, 2, 3);
                x.back(number);
                x.next();
            }, x -> x.prove(50, 3, 1, 3));
        }
    }

    private static void objectsAreApart(Checks checks) {
        StakeLedger x = new StakeLedger();
        StakeLedger y = new StakeLedger();
        x.pay(0, 1, 10, 2);
        x.keep(0);
        checks.due("account(0, 0) of another object", y.account(0, 0), 1000);
        y.back(0);
        checks.due("account(0, 0) of another object after back(0)", y.account(0, 0), 1000);
    }

    /** "Of two exceptions that hold the one that stands first behind throws is thrown": account 20 has 0. */
    private static void payThrowsTheFirst(Checks checks) {
        int[][] all = {{20, -1, 5, 0}, {20, 200, 5, 0}, {20, 1, 0, 0}, {20, 1, 1000001, 0}, {20, 1, 5, -1},
            {20, 1, 5, 16}};
        for (int[] in : all) {
            checks.refused("pay of 0", Checks.ARGUMENT, x -> SetUp.drain(x, 20),
                x -> x.pay(in[0], in[1], in[2], in[3]));
        }
    }

    private static void bondThrowsTheFirst(Checks checks) {
        int[][] all = {{-1, 1, 5, 0}, {200, 1, 5, 0}, {20, -1, 5, 0}, {20, 16, 5, 0}, {20, 1, 0, 0},
            {20, 1, 1000001, 0}, {20, 1, 5, -1}, {20, 1, 5, 16}};
        for (int[] in : all) {
            checks.refused("bond of 0", Checks.ARGUMENT, x -> SetUp.drain(x, 20),
                x -> x.bond(in[0], in[1], in[2], in[3]));
            checks.refused("bond beside 96", Checks.ARGUMENT, SetUp::fillBonds,
                x -> x.bond(in[0], in[1], in[2], in[3]));
        }
    }

    private static void unbondThrowsTheFirst(Checks checks) {
        int[][] all = {{-1, 3, 5, 0}, {200, 3, 5, 0}, {3, -1, 5, 0}, {3, 16, 5, 0}, {3, 3, 0, 0},
            {3, 3, 1000001, 0}, {3, 3, 5, -1}, {3, 3, 5, 16}};
        Consumer<StakeLedger> noBond = x -> x.unbond(3, 3, 100, 0);
        for (int[] in : all) {
            checks.refused("unbond without a fee", Checks.ARGUMENT, x -> SetUp.drain(x, 3),
                x -> x.unbond(in[0], in[1], in[2], in[3]));
            checks.refused("unbond without a bond", Checks.ARGUMENT, noBond,
                x -> x.unbond(in[0], in[1], in[2], in[3]));
            checks.refused("unbond beside 32", Checks.ARGUMENT, SetUp::fillReturns,
                x -> x.unbond(in[0], in[1], in[2], in[3]));
        }
    }

    private static void freeThrowsTheFirst(Checks checks) {
        int[][] all = {{-1, 3, 0}, {200, 3, 0}, {20, -1, 0}, {20, 16, 0}, {20, 3, -1}, {20, 3, 16}};
        Consumer<StakeLedger> noFee = x -> {
            SetUp.proveAll(x);
            SetUp.drain(x, 20);
        };
        for (int[] in : all) {
            checks.refused("free without a fee", Checks.ARGUMENT, noFee, x -> x.free(in[0], in[1], in[2]));
            checks.refused("free of a free node", Checks.ARGUMENT, Checks.NOTHING,
                x -> x.free(in[0], in[1], in[2]));
        }
    }

    private static void proveThrowsTheFirst(Checks checks) {
        int[][] all = {{-1, 3, 1, 0}, {200, 3, 1, 0}, {20, -1, 1, 0}, {20, 16, 1, 0}, {20, 3, 1, -1},
            {20, 3, 1, 16}};
        Consumer<StakeLedger> noFee = x -> {
            x.next();
            SetUp.drain(x, 20);
        };
        for (int[] in : all) {
            checks.refused("prove without a fee", Checks.ARGUMENT, noFee,
                x -> x.prove(in[0], in[1], in[2], in[3]));
            checks.refused("prove of what is proved", Checks.ARGUMENT, SetUp::proveAll,
                x -> x.prove(in[0], in[1], in[2], in[3]));
            checks.refused("prove of what is to come", Checks.ARGUMENT, Checks.NOTHING,
                x -> x.prove(in[0], in[1], in[2], in[3]));
            checks.refused("prove of height 0", Checks.ARGUMENT, Checks.NOTHING,
                x -> x.prove(in[0], in[1], 0, in[3]));
        }
    }

    /** "An object is used for at most 512 calls": the last one is answered as all others. */
    private static void lastCall(Checks checks) {
        StakeLedger x = new StakeLedger();
        x.unbond(3, 3, 10, 0);
        SetUp.nextTimes(x, 507);
        checks.due("call 509: unbond(3, 3, 20, 0)", x.unbond(3, 3, 20, 0), 1);
        checks.due("call 510: prove(20, 3, 507, 0)", x.prove(20, 3, 507, 0), 17);
        checks.due("call 511: back(7)", x.back(7), 0);
        checks.due("call 512: account(3, 4)", x.account(3, 4), 100);
    }
}
