/** Promise 8. */
public final class KeepTest {
    public static void main(String[] args) {
        Checks checks = new Checks();
        stateGoesOn(checks);
        keptStaysAsItWas(checks);
        keptAnew(checks);
        eightApart(checks);
        fullAndEmpty(checks);
        fullTwice(checks);
        numbers(checks);
        checks.end();
    }

    private static void stateGoesOn(Checks checks) {
        for (int k = 0; k < 8; k++) {
            int number = k;
            checks.sameState("after keep(" + k + ")", x -> {
                SetUp.busy(x);
                x.keep(number);
            }, SetUp::busy);
        }
    }

    private static void changeAll(StakeLedger x) {
        x.pay(60, 61, 500, 7);
        x.bond(62, 9, 30, 8);
        x.bond(0, 3, 3, 8);
        x.unbond(6, 6, 92, 8);
        x.prove(63, 3, 2, 8);
        x.free(63, 0, 8);
        x.prove(63, 15, 3, 8);
        SetUp.nextTimes(x, 6);
        x.prove(63, 15, 9, 8);
    }

    private static void keptStaysAsItWas(Checks checks) {
        for (int k = 0; k < 8; k++) {
            int number = k;
            checks.same("after keep(" + k + "), changes and back(" + k + ")", x -> {
                SetUp.busy(x);
                x.keep(number);
                changeAll(x);
                x.back(number);
            }, x -> {
                SetUp.busy(x);
                x.keep(number);
            });
        }
    }

    private static void keptAnew(Checks checks) {
        StakeLedger x = new StakeLedger();
        x.next();
        x.keep(0);
        x.pay(50, 51, 10, 1);
        x.keep(0);
        x.next();
        checks.due("back(0)", x.back(0), 1);
        checks.due("account(50, 0)", x.account(50, 0), 989);
    }

    private static void eightApart(Checks checks) {
        StakeLedger x = new StakeLedger();
        for (int k = 0; k < 8; k++) {
            x.next();
            x.bond(20, k, 1 + k, 0);
            x.keep(k);
        }
        for (int k = 7; k >= 0; k--) {
            checks.due("back(" + k + ")", x.back(k), k + 1);
            checks.due("sum(21)", x.sum(21), k + 1);
            checks.due("sum(19)", x.sum(19), 17 + k);
            checks.due("account(20, " + (k + 1) + ")", x.account(20, k + 1), 1 + k);
        }
    }

    /** 96 bonds and 32 returns are kept, and so is a state without any bond. */
    private static void fullAndEmpty(Checks checks) {
        StakeLedger x = new StakeLedger();
        SetUp.fillBonds(x);
        SetUp.fillReturns(x);
        x.keep(3);
        x.back(0);
        SetUp.unbondAll(x);
        x.keep(4);
        checks.due("back(3)", x.back(3), 0);
        checks.due("sum(19)", x.sum(19), 96);
        checks.due("sum(18)", x.sum(18), 32);
        checks.due("account(109, 16)", x.account(109, 16), 5);
        checks.due("account(15, 17)", x.account(15, 17), 6);
        checks.due("bond(150, 1, 5, 0)", Checks.answer(x, y -> y.bond(150, 1, 5, 0)),
            "throws.IllegalStateException");
        checks.due("unbond(0, 0, 5, 0)", Checks.answer(x, y -> y.unbond(0, 0, 5, 0)),
            "throws.IllegalStateException");
        checks.due("back(4)", x.back(4), 0);
        checks.due("sum(19)", x.sum(19), 0);
        checks.due("sum(18)", x.sum(18), 16);
        checks.due("proposer(0, 0)", x.proposer(0, 0), -1);
        checks.due("bond(150, 1, 5, 0)", x.bond(150, 1, 5, 0), 5);
    }

    /** Two full states, alike in no bond that came and in no return. */
    private static void fullTwice(Checks checks) {
        StakeLedger x = new StakeLedger();
        SetUp.fillBonds(x);
        SetUp.fillReturns(x);
        x.keep(3);
        x.back(0);
        x.next();
        for (int i = 0; i < 80; i++) {
            x.bond(110 + i, 15 - i % 16, 7, 1);
        }
        for (int i = 0; i < 32; i++) {
            x.unbond(15 - i % 16, 15 - i % 16, 2, 1);
        }
        x.keep(4);
        checks.due("back(3)", x.back(3), 0);
        for (int i = 0; i < 80; i++) {
            checks.due("bond " + i + " of number 3", x.account(30 + i, 1 + i % 16), 5);
        }
        returnsAtFour(checks, x, 6, 32);
        checks.due("back(4)", x.back(4), 1);
        for (int i = 0; i < 80; i++) {
            checks.due("bond " + i + " of number 4", x.account(110 + i, 16 - i % 16), 7);
        }
        returnsAtFour(checks, x, 4, 0);
        checks.due("next() to 5", x.next(), 32);
    }

    private static void returnsAtFour(Checks checks, StakeLedger x, int ofEach, int dueAtFour) {
        for (int a = 0; a < 16; a++) {
            checks.due("account(" + a + ", 17)", x.account(a, 17), ofEach);
        }
        while (x.sum(21) < 3) {
            checks.due("next()", x.next(), 0);
        }
        checks.due("next() to 4", x.next(), dueAtFour);
    }

    private static int kept(StakeLedger x, int k) {
        x.keep(k);
        return 0;
    }

    /** "IndexOutOfBoundsException if k is not 0 to 7." */
    private static void numbers(Checks checks) {
        checks.badIndex("keep(-1)", x -> kept(x, -1));
        checks.badIndex("keep(8)", x -> kept(x, 8));
        checks.range("keep(k)", 0, 7, Checks.INDEX, KeepTest::kept);
    }
}
