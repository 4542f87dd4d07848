import java.util.Random;

/** All promises: runs of calls that a fixed seed picks, each answer compared with that of the model. */
public final class ModelTest {
    private static final int RUNS = 160;
    private static final int CALLS = 512;
    private static final int DEAR_EVERY = 40;
    private static final int[] ODD = {-1, 6, 7, 9, 10, 60, 555, 556, 566, 600, 999, 1000, -2, -1000,
        Integer.MAX_VALUE, Integer.MIN_VALUE};

    private final Random random;
    private final int words;
    private final int oddEvery;
    private Factloom x = new Factloom();
    private Model m = new Model();

    private ModelTest(int run) {
        random = new Random(7919L * run + 11);
        words = 2 + random.nextInt(5);
        oddEvery = run % 4 == 0 ? 12 : 400;
    }

    public static void main(String[] args) {
        int runs = args.length > 0 ? Integer.parseInt(args[0]) : RUNS;
        for (int run = 0; run < runs && Check.wrongSoFar() == 0; run++) {
            new ModelTest(run).play(run);
        }
        Check.end();
    }

    private void play(int run) {
        StringBuilder told = new StringBuilder();
        int quiet = run % 3;
        for (int k = 0; k < CALLS && Check.wrongSoFar() == 0; k++) {
            boolean changes = random.nextInt(4) > quiet;
            String call = changes ? change() : ask();
            told.append(call).append("; ");
            if (Check.wrongSoFar() != 0) {
                System.out.println("run " + run + ": " + told);
            }
        }
    }

    private boolean isOdd() {
        return random.nextInt(oddEvery) == 0;
    }

    private int odd() {
        return ODD[random.nextInt(ODD.length)];
    }

    private int word() {
        return isOdd() ? odd() : random.nextInt(words);
    }

    private int triple() {
        if (isOdd()) {
            return odd();
        }
        return random.nextInt(words) * 100 + random.nextInt(Math.min(words, 3)) * 10 + random.nextInt(words);
    }

    private int pattern() {
        if (isOdd()) {
            return odd();
        }
        int pattern = 0;
        for (int k = 0; k < 3; k++) {
            int letter = 6 + random.nextInt(random.nextInt(5) == 0 ? 4 : 3);
            pattern = pattern * 10 + (random.nextInt(k == 1 ? 2 : 5) == 0 ? random.nextInt(words) : letter);
        }
        return pattern;
    }

    private int patternOrNone() {
        return random.nextInt(4) == 0 ? -1 : pattern();
    }

    private int moment() {
        return isOdd() ? odd() : random.nextInt(m.store(0) + 2);
    }

    private String due(String name, Check.Call of, Check.Call model) {
        Check.due(name, Check.outcome(model), Check.outcome(of));
        return name;
    }

    private String change() {
        int a = triple();
        int b = word();
        int c = word();
        int p = pattern();
        int q = pattern();
        int r = patternOrNone();
        int trust = isOdd() ? odd() : 1 + random.nextInt(9);
        boolean is = random.nextInt(3) == 0;
        switch (random.nextInt(32)) {
            case 0: case 1: case 2: case 3: case 4: case 5: case 6: case 7: case 8: case 9:
                return due("tell(" + a + ", " + trust + ")", () -> x.tell(a, trust), () -> m.tell(a, trust));
            case 10: case 11: case 12:
                return due("unsay(" + a + ")", () -> x.unsay(a), () -> m.unsay(a));
            case 13: case 14: case 15: case 16:
                return due("commit()", () -> x.commit(), () -> m.commit());
            case 17:
                return due("drop()", () -> x.drop(), () -> m.drop());
            case 18: case 19:
                return due("join(" + b + ", " + c + ")", () -> x.join(b, c), () -> m.join(b, c));
            case 20:
                return due("part()", () -> x.part(), () -> m.part());
            case 21:
                return due("single(" + b + ", " + is + ")", () -> x.single(b, is), () -> m.single(b, is));
            case 22: case 23: case 24: case 25:
                return due("rule(" + p + ", " + q + ", " + r + ")", () -> x.rule(p, q, r), () -> m.rule(p, q, r));
            case 26:
                return due("unrule()", () -> x.unrule(), () -> m.unrule());
            case 27: case 28: case 29:
                return due("pattern(" + p + ")", () -> x.pattern(p), () -> m.pattern(p));
            case 30:
                return due("not(" + r + ")", () -> x.not(r), () -> m.not(r));
            default:
                return due("clear()", () -> x.clear(), () -> m.clear());
        }
    }

    private String ask() {
        int a = triple();
        int b = word();
        int c = word();
        int e = word();
        int what = isOdd() ? odd() : random.nextInt(14) - 1;
        int then = moment();
        int nth = isOdd() ? odd() : random.nextInt(random.nextInt(3) == 0 ? 200 : 4);
        switch (random.nextInt(DEAR_EVERY)) {
            case 0: case 1: case 2: case 3: case 4: case 5: case 6: case 7:
                int k = random.nextInt(10) == 0 ? what : what % 7;
                return due("ofFact(" + a + ", " + k + ")", () -> x.ofFact(a, k), () -> m.ofFact(a, k));
            case 8: case 9:
                return due("told(" + a + ", " + then + ")", () -> x.told(a, then), () -> m.told(a, then));
            case 10: case 11:
                return due("past(" + then + ")", () -> x.past(then), () -> m.past(then));
            case 12: case 13:
                return due("answers()", () -> x.answers(), () -> m.answers());
            case 14: case 15: case 16: case 17:
                return due("answer(" + nth + ")", () -> x.answer(nth), () -> m.answer(nth));
            case 18: case 19:
                return due("size(" + nth + ")", () -> x.size(nth), () -> m.size(nth));
            case 20: case 21:
                return due("bound()", () -> x.bound(), () -> m.bound());
            case 22: case 23: case 24:
                return due("chain(" + b + ", " + c + ", " + e + ")", () -> x.chain(b, c, e), () -> m.chain(b, c, e));
            case 25: case 26: case 27: case 28:
                return due("why(" + a + ")", () -> x.why(a), () -> m.why(a));
            case 29: case 30: case 31: case 32:
                return due("store(" + what + ")", () -> x.store(what), () -> m.store(what));
            case 33: case 34:
                return due("broken()", () -> x.broken(), () -> m.broken());
            case 35: case 36: case 37:
                return due("lost(" + a + ")", () -> x.lost(a), () -> m.lost(a));
            case 38:
                return due("isSound()", () -> x.isSound(), () -> m.isSound());
            default:
                return due("digest()", () -> x.digest(), () -> m.digest());
        }
    }
}
