/** Promise 8. */
public final class KeepTest {
    public static void main(String[] args) {
        Checks checks = new Checks();
        stateGoesOn(checks);
        keptStaysAsItWas(checks);
        keptAnew(checks);
        eightApart(checks);
        wrongNumbers(checks);
        checks.end();
    }

    private static void busy(StakeLedger x) {
        x.pay(50, 51, 10, 1);
        x.bond(20, 3, 40, 1);
        x.unbond(4, 4, 100, 2);
        SetUp.nextTimes(x, 2);
        x.prove(52, 3, 2, 3);
        x.unbond(5, 5, 7, 2);
    }

    private static void stateGoesOn(Checks checks) {
        StakeLedger x = new StakeLedger();
        busy(x);
        x.keep(4);
        StakeLedger twin = new StakeLedger();
        busy(twin);
        checks.same("after keep(4)", x, twin);
    }

    private static void keptStaysAsItWas(Checks checks) {
        StakeLedger x = new StakeLedger();
        busy(x);
        x.keep(4);
        x.pay(60, 61, 500, 7);
        x.bond(62, 9, 30, 8);
        x.unbond(6, 6, 100, 8);
        SetUp.nextTimes(x, 6);
        x.free(63, 3, 8);
        x.prove(63, 3, 7, 8);
        checks.due("back(4)", x.back(4), 2);
        StakeLedger twin = new StakeLedger();
        busy(twin);
        checks.same("after back(4)", x, twin);
        SetUp.nextTimes(x, 1);
        checks.due("the proved height is 2 again: prove(63, 3, 3, 8)", x.prove(63, 3, 3, 8), 25);
        checks.due("next() to 4", x.next(), 1);
        checks.due("account(4, 0)", x.account(4, 0), 1099);
    }

    private static void keptAnew(Checks checks) {
        StakeLedger x = new StakeLedger();
        x.next();
        x.keep(0);
        x.pay(50, 51, 10, 1);
        x.keep(0);
        x.next();
        checks.due("back(0)", x.back(0), 1);
        checks.due("account(50, 0)", x.account(50, 0), 989);
    }

    private static void eightApart(Checks checks) {
        StakeLedger x = new StakeLedger();
        for (int k = 0; k < 8; k++) {
            x.next();
            x.keep(k);
        }
        for (int k = 7; k >= 0; k--) {
            checks.due("back(" + k + ")", x.back(k), k + 1);
            checks.due("sum(21)", x.sum(21), k + 1);
        }
    }

    private static int kept(StakeLedger x, int k) {
        x.keep(k);
        return 0;
    }

    private static void wrongNumbers(Checks checks) {
        checks.badIndex("keep(-1)", x -> kept(x, -1));
        checks.badIndex("keep(8)", x -> kept(x, 8));
        checks.badIndex("keep(MAX)", x -> kept(x, Integer.MAX_VALUE));
        checks.badIndex("keep(MIN)", x -> kept(x, Integer.MIN_VALUE));
    }
}
