import java.util.function.Consumer;
import java.util.function.ToIntBiFunction;
import java.util.function.ToIntFunction;

/** Counts the answers of one test that are not the ones that are due. */
final class Checks {
    static final Class<?> ARGUMENT = IllegalArgumentException.class;
    static final Class<?> STATE = IllegalStateException.class;
    static final Class<?> INDEX = IndexOutOfBoundsException.class;

    static final Consumer<StakeLedger> NOTHING = x -> { };

    private int wrong = 0;

    void due(String call, int got, int want) {
        if (got != want) {
            tell(call, "" + got, "" + want);
        }
    }

    void due(String call, String got, String want) {
        if (!got.equals(want)) {
            tell(call, got, want);
        }
    }

    private void tell(String call, String got, String want) {
        wrong++;
        System.out.println(call + " answered " + got + ", due is " + want);
    }

    static StakeLedger after(Consumer<StakeLedger> setUp) {
        StakeLedger x = new StakeLedger();
        setUp.accept(x);
        return x;
    }

    /** The number, or throws. and the name of the exception. */
    static String answer(StakeLedger x, ToIntFunction<StakeLedger> made) {
        try {
            return "" + made.applyAsInt(x);
        } catch (RuntimeException e) {
            return "throws." + e.getClass().getSimpleName();
        }
    }

    /** On a new object behind its set-up the call has that answer. */
    void taken(String call, int want, Consumer<StakeLedger> setUp, ToIntFunction<StakeLedger> made) {
        due(call, answer(after(setUp), made), "" + want);
    }

    /** On a new object behind its set-up the call throws just that, and changes nothing, also no fee. */
    void refused(String call, Class<?> want, Consumer<StakeLedger> setUp, ToIntFunction<StakeLedger> made) {
        due(call, answer(after(setUp), made), "throws." + want.getSimpleName());
        same("after " + call, setUp.andThen(x -> answer(x, made)), setUp);
    }

    /** Refused by a new object and by a busy one, where a change of any part could be seen. */
    void badArgument(String call, ToIntFunction<StakeLedger> made) {
        refused(call, ARGUMENT, NOTHING, made);
        refused(call + " when busy", ARGUMENT, SetUp::busy, made);
    }

    void badIndex(String call, ToIntFunction<StakeLedger> made) {
        refused(call, INDEX, NOTHING, made);
        refused(call + " when busy", INDEX, SetUp::busy, made);
    }

    void badState(String call, Consumer<StakeLedger> setUp, ToIntFunction<StakeLedger> made) {
        Consumer<StakeLedger> busy = SetUp::busy;
        refused(call, STATE, setUp, made);
        refused(call + " when busy", STATE, busy.andThen(setUp), made);
    }

    /** A busy object takes the lowest and the highest value, and refuses all that is outside. */
    void range(String call, int low, int high, Class<?> want, ToIntBiFunction<StakeLedger, Integer> made) {
        for (int inside : new int[] {low, high}) {
            String got = answer(after(SetUp::busy), x -> made.applyAsInt(x, inside));
            due(call + " of " + inside + " throws", got.startsWith("throws.") ? 1 : 0, 0);
        }
        for (int outside : new int[] {low - 1, high + 1, Integer.MIN_VALUE, Integer.MAX_VALUE}) {
            refused(call + " of " + outside, want, SetUp::busy, x -> made.applyAsInt(x, outside));
        }
    }

    /** Behind the two set-ups nothing can be told apart, the kept states too. */
    void same(String when, Consumer<StakeLedger> got, Consumer<StakeLedger> want) {
        Twins twins = new Twins(this, when, got, want);
        twins.sameState();
        twins.sameKeptStates();
    }

    /** As same, but each may keep other states. */
    void sameState(String when, Consumer<StakeLedger> got, Consumer<StakeLedger> want) {
        new Twins(this, when, got, want).sameState();
    }

    void end() {
        System.out.println(wrong == 0 ? "all answers are as due" : wrong + " answers are not as due");
        if (wrong != 0) {
            System.exit(1);
        }
    }
}
