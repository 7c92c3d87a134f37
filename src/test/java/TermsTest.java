import java.util.function.Consumer;
import java.util.function.ToIntFunction;

/** What the section "Terms" says of all calls. */
public final class TermsTest {
    private static final String[] CALLS = {"pay", "bond", "unbond", "free", "prove"};

    public static void main(String[] args) {
        Checks checks = new Checks();
        aFeeOfOne(checks);
        feeComesToEach(checks);
        feeMustBeThere(checks);
        feeMustBeThereAlsoIfItComesBack(checks);
        feeComesBack(checks);
        noFeeOfOtherCalls(checks);
        refusedTakesNoFee(checks);
        amountAboveZero(checks);
        oneForEachTwo(checks);
        atMostNinetySix(checks);
        atMostThirtyTwo(checks);
        powerIsTheSum(checks);
        powerOfTheJailed(checks);
        checks.end();
    }

    /** One of the five, of so much as the least: by an account 0 to 15 with its own node. */
    private static ToIntFunction<StakeLedger> least(String call, int a, int p) {
        switch (call) {
            case "pay": return x -> x.pay(a, a, 1, p);
            case "bond": return x -> x.bond(a, a, 1, p);
            case "unbond": return x -> x.unbond(a, a, 1, p);
            case "free": return x -> x.free(a, 9, p);
            default: return x -> x.prove(a, a, 2, p);
        }
    }

    /** The least call of each kind by account 0 to 8 passes; account a has just so much. */
    private static Consumer<StakeLedger> ready(int a, int balance) {
        return x -> {
            SetUp.nextTimes(x, 2);
            x.prove(20, 9, 1, 10);
            SetUp.leave(x, a, balance);
        };
    }

    /** What the least call takes of the balance beside the fee. */
    private static int alsoTaken(String call) {
        return call.equals("bond") ? 1 : 0;
    }

    private static int neededBesideTheFee(String call) {
        return call.equals("bond") || call.equals("pay") ? 1 : 0;
    }

    /** "Of each of the five calls that change a STATE a fee of 1 is taken from BALANCE a first". */
    private static void aFeeOfOne(Checks checks) {
        for (String call : CALLS) {
            StakeLedger x = Checks.after(ready(3, 500));
            int all = x.sum(20);
            least(call, 3, 5).applyAsInt(x);
            checks.due(call + ": account(3, 0)", x.account(3, 0), 499 - alsoTaken(call));
            checks.due(call + ": account(5, 0)", x.account(5, 0), 1001);
            checks.due(call + ": sum(20)", x.sum(20), all);
        }
    }

    /** "and comes to the BALANCE of ACCOUNT p": 0 to 15. */
    private static void feeComesToEach(Checks checks) {
        for (String call : CALLS) {
            for (int p = 0; p < 16; p++) {
                int a = p == 3 ? 4 : 3;
                StakeLedger x = Checks.after(ready(a, 500));
                int before = x.account(p, 0);
                least(call, a, p).applyAsInt(x);
                checks.due(call + ": account(" + p + ", 0)", x.account(p, 0), before + 1);
            }
        }
    }

    /** "(which must be there)": with less than the fee, and less than the fee and v. */
    private static void feeMustBeThere(Checks checks) {
        for (String call : CALLS) {
            int needed = 1 + neededBesideTheFee(call);
            for (int balance = 0; balance < needed; balance++) {
                checks.badState(call + " with " + balance, ready(3, balance), least(call, 3, 5));
            }
            StakeLedger x = Checks.after(ready(3, needed));
            String got = Checks.answer(x, least(call, 3, 5));
            checks.due(call + " with " + needed + " throws", got.startsWith("throws.") ? 1 : 0, 0);
            checks.due(call + ": account(3, 0)", x.account(3, 0), needed - 1 - alsoTaken(call));
        }
    }

    /** Taken first, so a BALANCE of 0 has no fee, even if it would come to that BALANCE. */
    private static void feeMustBeThereAlsoIfItComesBack(Checks checks) {
        for (String call : CALLS) {
            checks.badState(call + " with 0 to itself", ready(3, 0), least(call, 3, 3));
        }
    }

    /** "(if that is a, all of the BALANCE is there for v)": 1 is enough for each of the five. */
    private static void feeComesBack(Checks checks) {
        for (String call : CALLS) {
            StakeLedger x = Checks.after(ready(3, 1));
            String got = Checks.answer(x, least(call, 3, 3));
            checks.due(call + " with 1 to itself throws", got.startsWith("throws.") ? 1 : 0, 0);
            checks.due(call + ": account(3, 0)", x.account(3, 0), 1 - alsoTaken(call));
        }
    }

    private static void noFeeOfOtherCalls(Checks checks) {
        StakeLedger x = new StakeLedger();
        x.next();
        x.keep(0);
        x.back(0);
        x.account(0, 0);
        x.sum(0);
        x.proposer(0, 0);
        x.share(1);
        for (int a = 0; a < 200; a++) {
            checks.due("account(" + a + ", 0)", x.account(a, 0), 1000);
        }
    }

    /** "What is refused changes nothing, also no fee": the balance is there still for what comes next. */
    private static void refusedTakesNoFee(Checks checks) {
        StakeLedger x = new StakeLedger();
        SetUp.leave(x, 3, 2);
        refuseAll(checks, x);
        checks.due("account(3, 0)", x.account(3, 0), 2);
        checks.due("account(5, 0)", x.account(5, 0), 1000);
        checks.due("pay(3, 20, 1, 5)", x.pay(3, 20, 1, 5), 0);
    }

    private static void refuseAll(Checks checks, StakeLedger x) {
        String refused = "throws.IllegalStateException";
        checks.due("pay(3, 20, 2, 5)", Checks.answer(x, y -> y.pay(3, 20, 2, 5)), refused);
        checks.due("bond(3, 3, 2, 5)", Checks.answer(x, y -> y.bond(3, 3, 2, 5)), refused);
        checks.due("unbond(3, 3, 101, 5)", Checks.answer(x, y -> y.unbond(3, 3, 101, 5)), refused);
        checks.due("free(3, 3, 5)", Checks.answer(x, y -> y.free(3, 3, 5)), refused);
        checks.due("prove(3, 3, 1, 5)", Checks.answer(x, y -> y.prove(3, 3, 1, 5)), refused);
    }

    /** "an amount above 0": cuts never end a BOND, and an unbonded one is no BOND. */
    private static void amountAboveZero(Checks checks) {
        StakeLedger x = new StakeLedger();
        x.bond(20, 0, 1, 1);
        for (int h = 1; h <= 40; h++) {
            x.next();
            x.prove(30, 0, h, 1);
        }
        checks.due("account(20, 1)", x.account(20, 1), 1);
        checks.due("what no quarter can be taken of: account(0, 1)", x.account(0, 1), 3);
        checks.due("sum(17)", x.sum(17), 97);
        checks.due("sum(19)", x.sum(19), 17);
        x.unbond(20, 0, 1, 1);
        checks.due("sum(19)", x.sum(19), 16);
        checks.due("unbond(20, 0, 1, 1)", Checks.answer(x, y -> y.unbond(20, 0, 1, 1)),
            "throws.IllegalStateException");
    }

    /** "one for each such two": an ACCOUNT and a NODE. */
    private static void oneForEachTwo(Checks checks) {
        StakeLedger x = new StakeLedger();
        for (int i = 0; i < 100; i++) {
            x.bond(3, 3, 1, 1);
        }
        checks.due("sum(19)", x.sum(19), 16);
        checks.due("account(3, 4)", x.account(3, 4), 200);
        x.bond(3, 4, 5, 1);
        x.bond(4, 3, 6, 1);
        checks.due("sum(19)", x.sum(19), 18);
        checks.due("account(3, 4)", x.account(3, 4), 200);
        checks.due("account(3, 5)", x.account(3, 5), 5);
        checks.due("account(4, 4)", x.account(4, 4), 6);
        checks.due("account(4, 5)", x.account(4, 5), 100);
    }

    /** "at most 96": also if they are of six accounts and none is one of the first. */
    private static void atMostNinetySix(Checks checks) {
        Consumer<StakeLedger> full = x -> {
            SetUp.unbondAll(x);
            for (int i = 0; i < 96; i++) {
                x.bond(20 + i / 16, i % 16, 1, 1);
            }
        };
        StakeLedger x = Checks.after(full);
        checks.due("sum(19)", x.sum(19), 96);
        checks.due("bond(25, 15, 1, 1)", x.bond(25, 15, 1, 1), 2);
        checks.refused("bond(26, 0, 1, 1)", Checks.STATE, full, y -> y.bond(26, 0, 1, 1));
        checks.refused("bond(0, 0, 1, 1)", Checks.STATE, full, y -> y.bond(0, 0, 1, 1));
    }

    /** "at most 32": also if they are due at four heights. */
    private static void atMostThirtyTwo(Checks checks) {
        Consumer<StakeLedger> full = x -> {
            for (int i = 0; i < 32; i++) {
                x.unbond(i % 16, i % 16, 1 + i, 1);
                if (i % 10 == 9) {
                    x.next();
                }
            }
        };
        StakeLedger x = Checks.after(full);
        checks.due("sum(18)", x.sum(18), 32);
        checks.due("next() to 4", x.next(), 10);
        checks.due("unbond(0, 0, 1, 1)", x.unbond(0, 0, 1, 1), 23);
        checks.refused("unbond(0, 0, 1, 1)", Checks.STATE, full, y -> y.unbond(0, 0, 1, 1));
    }

    /** "The POWER of a NODE is the sum of BONDS with it". */
    private static void powerIsTheSum(Checks checks) {
        StakeLedger x = new StakeLedger();
        for (int i = 0; i < 80; i++) {
            x.bond(20 + i, 6, 1 + i, 1);
            checks.due("sum(6)", x.sum(6), 100 + (i + 1) * (i + 2) / 2);
        }
        checks.due("sum(5)", x.sum(5), 100);
        x.unbond(99, 6, 80, 1);
        checks.due("sum(6)", x.sum(6), 100 + 79 * 80 / 2);
    }

    /** "0 if it is JAILED": what is bonded or unbonded then shows when it is free. */
    private static void powerOfTheJailed(Checks checks) {
        StakeLedger x = new StakeLedger();
        x.next();
        x.prove(20, 6, 1, 1);
        checks.due("sum(6)", x.sum(6), 0);
        x.bond(20, 6, 10, 1);
        x.unbond(6, 6, 5, 1);
        checks.due("sum(6)", x.sum(6), 0);
        checks.due("free(20, 6, 1)", x.free(20, 6, 1), 80);
        checks.due("sum(6)", x.sum(6), 80);
    }
}
