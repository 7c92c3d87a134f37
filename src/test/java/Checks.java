import java.util.function.Consumer;
import java.util.function.ToIntFunction;

/** Counts the answers of one test that are not the ones that are due. */
final class Checks {
    static final Consumer<StakeLedger> NOTHING = x -> { };

    private int wrong = 0;

    void due(String call, int got, int want) {
        if (got != want) {
            wrong++;
            System.out.println(call + " answered " + got + ", due is " + want);
        }
    }

    /** On a new object behind its set-up the call throws just that, and leaves all as it was. */
    void refused(String call, Class<?> want, Consumer<StakeLedger> setUp, ToIntFunction<StakeLedger> made) {
        StakeLedger x = new StakeLedger();
        setUp.accept(x);
        String got = "nothing";
        try {
            made.applyAsInt(x);
        } catch (RuntimeException e) {
            got = e.getClass().getName();
        }
        if (!got.equals(want.getName())) {
            wrong++;
            System.out.println(call + " threw " + got + ", due is " + want.getName());
        }
        // A twin shows what was before, as looking twice at one object would take more than 512 calls.
        StakeLedger twin = new StakeLedger();
        setUp.accept(twin);
        same("after " + call, x, twin);
    }

    void badArgument(String call, ToIntFunction<StakeLedger> made) {
        refused(call, IllegalArgumentException.class, NOTHING, made);
    }

    void badIndex(String call, ToIntFunction<StakeLedger> made) {
        refused(call, IndexOutOfBoundsException.class, NOTHING, made);
    }

    void badState(String call, Consumer<StakeLedger> setUp, ToIntFunction<StakeLedger> made) {
        refused(call, IllegalStateException.class, setUp, made);
    }

    /** 422 calls on each. */
    void same(String when, StakeLedger got, StakeLedger want) {
        for (int what = 0; what <= 21; what++) {
            due(when + ": sum(" + what + ")", got.sum(what), want.sum(what));
        }
        for (int a = 0; a < 200; a++) {
            due(when + ": account(" + a + ", 0)", got.account(a, 0), want.account(a, 0));
            due(when + ": account(" + a + ", 17)", got.account(a, 17), want.account(a, 17));
        }
    }

    void end() {
        System.out.println(wrong == 0 ? "all answers are as due" : wrong + " answers are not as due");
        if (wrong != 0) {
            System.exit(1);
        }
    }
}
