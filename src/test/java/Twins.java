import java.util.function.BiConsumer;
import java.util.function.Consumer;

/**
 * Looks at two states from every side that the face has. Each look takes two new objects, as some
 * looks change what they look at and an object is good for 512 calls: no look makes over 330.
 */
final class Twins {
    private static final int ACCOUNTS_A_LOOK = 20;
    private static final int HEIGHTS_A_LOOK = 20;

    private final Checks checks;
    private final String when;
    private final Consumer<StakeLedger> got;
    private final Consumer<StakeLedger> want;

    Twins(Checks checks, String when, Consumer<StakeLedger> got, Consumer<StakeLedger> want) {
        this.checks = checks;
        this.when = when;
        this.got = got;
        this.want = want;
    }

    void sameState() {
        look(this::sums);
        look(this::balances);
        look(this::returns);
        for (int a = 0; a < 200; a += ACCOUNTS_A_LOOK) {
            int from = a;
            look((x, y) -> bonds(x, y, from));
        }
        for (int heights = 1; heights <= 4; heights++) {
            int times = heights;
            look((x, y) -> laterBalances(x, y, times));
        }
        look(this::provedHeights);
    }

    void sameKeptStates() {
        for (int k = 0; k < 8; k++) {
            int number = k;
            look((x, y) -> keptState(x, y, number));
        }
    }

    private void look(BiConsumer<StakeLedger, StakeLedger> side) {
        side.accept(Checks.after(got), Checks.after(want));
    }

    private void sums(StakeLedger x, StakeLedger y) {
        for (int what = 0; what <= 21; what++) {
            checks.due(when + ": sum(" + what + ")", x.sum(what), y.sum(what));
        }
    }

    private void balances(StakeLedger x, StakeLedger y) {
        for (int a = 0; a < 200; a++) {
            checks.due(when + ": account(" + a + ", 0)", x.account(a, 0), y.account(a, 0));
        }
    }

    private void returns(StakeLedger x, StakeLedger y) {
        for (int a = 0; a < 200; a++) {
            checks.due(when + ": account(" + a + ", 17)", x.account(a, 17), y.account(a, 17));
        }
    }

    private void bonds(StakeLedger x, StakeLedger y, int from) {
        for (int a = from; a < from + ACCOUNTS_A_LOOK; a++) {
            for (int what = 1; what <= 16; what++) {
                checks.due(when + ": account(" + a + ", " + what + ")", x.account(a, what), y.account(a, what));
            }
        }
    }

    /** Shows when each return is due. */
    private void laterBalances(StakeLedger x, StakeLedger y, int heights) {
        for (int i = 0; i < heights; i++) {
            String call = when + ": next() for the time " + (i + 1);
            checks.due(call, Checks.answer(x, StakeLedger::next), Checks.answer(y, StakeLedger::next));
        }
        balances(x, y);
    }

    /** The lowest height that can be proved is the one above the proved height. */
    private void provedHeights(StakeLedger x, StakeLedger y) {
        int height = y.sum(21);
        for (int n = 0; n < 16; n++) {
            for (int h = Math.max(1, height - HEIGHTS_A_LOOK + 1); h <= height; h++) {
                int node = n;
                int at = h;
                String call = when + ": prove(198, " + n + ", " + h + ", 0)";
                checks.due(call, Checks.answer(x, z -> z.prove(198, node, at, 0)),
                    Checks.answer(y, z -> z.prove(198, node, at, 0)));
            }
        }
    }

    private void keptState(StakeLedger x, StakeLedger y, int k) {
        checks.due(when + ": back(" + k + ")", x.back(k), y.back(k));
        sums(x, y);
        balances(x, y);
        for (int n = 0; n < 16; n++) {
            checks.due(when + ": the bond of " + n, x.account(n, n + 1), y.account(n, n + 1));
        }
    }
}
