import java.util.ArrayList;
import java.util.Arrays;
import java.util.List;
import java.util.Random;

/** All promises together: seeded runs of 512 calls, each answer compared with the one of PlainLedger. */
public final class ModelTest {
    private static final int RUNS = 400;
    private static final int CALLS = 512;
    private static final String[] CHANGES = {"pay", "bond", "unbond", "free", "prove", "next"};
    private static final String[] LOOKS = {"account", "sum", "proposer", "share"};
    private static final String[] EDGES = {"96 bonds", "32 returns", "no power", "a balance of 0"};

    private final Random random;
    private final StakeLedger ledger = new StakeLedger();
    private final PlainLedger plain = new PlainLedger();

    // What a run likes best differs, as no one mixture of calls reaches all of the document's edges.
    private final String favourite;
    private final int accounts;
    private final int amounts;
    private final int backPercent;

    private ModelTest(int seed) {
        random = new Random(seed);
        favourite = CHANGES[random.nextInt(CHANGES.length)];
        accounts = pick(3, 17, 200);
        amounts = pick(3, 30, 400, 2000);
        backPercent = pick(0, 0, 1, 5);
    }

    public static void main(String[] args) {
        int[] reached = new int[EDGES.length];
        for (int seed = 0; seed < RUNS; seed++) {
            new ModelTest(seed).run(seed, reached);
        }
        for (int i = 0; i < EDGES.length; i++) {
            if (reached[i] == 0) {
                System.out.println("no run reaches " + EDGES[i]);
                System.exit(1);
            }
        }
        System.out.println(RUNS + " runs are as due");
    }

    private void run(int seed, int[] reached) {
        List<String> told = new ArrayList<>();
        for (int i = 0; i < CALLS; i++) {
            String call = chooseCall();
            int[] in = chooseInput(call);
            String got = answer(ledger, call, in);
            String want = plain.answer(call, in);
            told.add(call + Arrays.toString(in) + " answered " + got);
            if (!got.equals(want)) {
                told.forEach(System.out::println);
                System.out.println("run " + seed + ": due is " + want);
                System.exit(1);
            }
            count(call, in, got, reached);
        }
    }

    private static void count(String call, int[] in, String got, int[] reached) {
        reached[0] += call.equals("sum") && in[0] == 19 && got.equals("96") ? 1 : 0;
        reached[1] += call.equals("unbond") && got.equals("32") ? 1 : 0;
        reached[2] += call.equals("proposer") && got.equals("-1") ? 1 : 0;
        reached[3] += call.equals("pay") && got.equals("0") ? 1 : 0;
    }

    private String chooseCall() {
        int dice = random.nextInt(100);
        if (dice < backPercent) {
            return "back";
        }
        if (dice < 8) {
            return "keep";
        }
        if (dice < 30) {
            return LOOKS[random.nextInt(LOOKS.length)];
        }
        return dice < 75 ? favourite : CHANGES[random.nextInt(CHANGES.length)];
    }

    private int[] chooseInput(String call) {
        int a = near(accounts);
        int n = near(16);
        switch (call) {
            case "pay": return new int[] {a, near(accounts), amount(a, 0), near(16)};
            case "bond": return new int[] {a, n, amount(a, 0), near(16)};
            case "unbond": return unbondInput(a, n);
            case "free": return new int[] {a, n, near(16)};
            case "prove": return new int[] {a, n, height() + 1 - random.nextInt(5), near(16)};
            case "next": return new int[0];
            case "account": return new int[] {a, near(18)};
            case "sum": return new int[] {near(22)};
            case "proposer": return new int[] {heightOrRound(), heightOrRound()};
            case "share": return new int[] {random.nextInt()};
            default: return new int[] {near(8)};
        }
    }

    /** Most of them where the first bonds are, as others would seldom find one. */
    private int[] unbondInput(int a, int n) {
        int owner = random.nextInt(4) == 0 ? a : n;
        return new int[] {owner, n, amount(owner, n + 1), near(16)};
    }

    private int pick(int... from) {
        return from[random.nextInt(from.length)];
    }

    /** 0 to bound - 1, and now and then one that is outside. */
    private int near(int bound) {
        int dice = random.nextInt(150);
        return dice == 0 ? -1 : dice == 1 ? bound : dice == 2 ? random.nextInt() : random.nextInt(bound);
    }

    /** Now and then at the edge of what there is, or of what may be asked for. */
    private int amount(int a, int what) {
        int dice = random.nextInt(100);
        if (dice < 2) {
            return pick(0, -1, 1000000, 1000001, Integer.MAX_VALUE);
        }
        String there = plain.answer("account", new int[] {a, what});
        if (dice < 15 && !there.endsWith("Exception")) {
            return Integer.parseInt(there) + 1 - random.nextInt(3);
        }
        return 1 + random.nextInt(amounts);
    }

    private int height() {
        return Integer.parseInt(plain.answer("sum", new int[] {21}));
    }

    private int heightOrRound() {
        return random.nextBoolean() ? near(50) : near(1000001);
    }

    private static String answer(StakeLedger x, String call, int[] in) {
        try {
            return "" + made(x, call, in);
        } catch (RuntimeException e) {
            return e.getClass().getSimpleName();
        }
    }

    private static int made(StakeLedger x, String call, int[] in) {
        switch (call) {
            case "pay": return x.pay(in[0], in[1], in[2], in[3]);
            case "bond": return x.bond(in[0], in[1], in[2], in[3]);
            case "unbond": return x.unbond(in[0], in[1], in[2], in[3]);
            case "free": return x.free(in[0], in[1], in[2]);
            case "prove": return x.prove(in[0], in[1], in[2], in[3]);
            case "next": return x.next();
            case "back": return x.back(in[0]);
            case "account": return x.account(in[0], in[1]);
            case "sum": return x.sum(in[0]);
            case "proposer": return x.proposer(in[0], in[1]);
            case "share": return x.share(in[0]);
            default:
                x.keep(in[0]);
                return 0;
        }
    }
}
