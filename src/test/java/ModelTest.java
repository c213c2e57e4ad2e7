import java.util.Random;

/** Long runs of calls, ordinary and wrong ones, each answered by the class and by the model; of every other one the end is that all that can be asked is compared. */
public final class ModelTest {
    /** What an object answers to later calls is free. */
    private static final int CALLS = 512;
    /** So many calls askAll and askPlans need at most. */
    private static final int CALLS_OF_ALL = 280, CALLS_OF_PLANS = 64;
    private static final int[] ODD = {-2147483648, -7, -1, 0, 1, 2, 3, 4, 5, 9, 10, 16, 19, 20, 24, 63, 64, 99, 100, 2147483647};

    private final Random random;
    private final int seed;
    private final int points;
    private final boolean tight;
    private final WalkPasses real = new WalkPasses();
    private final WalkModel model = new WalkModel();
    private int asked = 0;
    private int wrong = 0;

    private ModelTest(int seed, int points, boolean tight) {
        this.seed = seed;
        this.random = new Random(seed);
        this.points = points;
        this.tight = tight;
    }

    private int number(int from, int to) {
        if (random.nextInt(25) == 0) return ODD[random.nextInt(ODD.length)];
        return from + random.nextInt(to - from + 1);
    }

    private void same(String call, int got, int want) {
        asked++;
        if (got == want) return;
        wrong++;
        System.out.println("seed " + seed + ": " + call + " answered " + got + ", due is " + want);
    }

    private void change(int kind) {
        int a;
        int b;
        switch (kind) {
            case 0: case 1: case 2:
                a = number(0, points - 1); b = number(1, 9);
                same("letter(" + a + ", " + b + ")", real.letter(a, b), model.letter(a, b));
                break;
            case 3:
                a = number(0, Math.max(0, model.count(0) - 1)); b = number(0, 1);
                same("misread(" + a + ", " + b + ")", real.misread(a, b), model.misread(a, b));
                break;
            case 4:
                a = number(0, 23);
                same("drop(" + a + ")", real.drop(a), model.drop(a));
                break;
            case 5:
                a = number(0, 9); b = number(0, 9);
                same("change(" + a + ", " + b + ")", real.change(a, b), model.change(a, b));
                break;
            case 6:
                a = number(2, 4);
                same("stackers(" + a + ")", real.stackers(a), model.stackers(a));
                break;
            case 7:
                a = number(0, 3); b = tight ? number(5, 30) : number(1, 99);
                same("room(" + a + ", " + b + ")", real.room(a, b), model.room(a, b));
                break;
            case 8:
                a = number(0, points - 1); b = number(0, 63);
                same("code(" + a + ", " + b + ")", real.code(a, b), model.code(a, b));
                break;
            case 9:
                same("dense()", real.dense(), model.dense());
                break;
            case 10:
                a = number(1, 3);
                same("take(" + a + ")", real.take(a), model.take(a));
                break;
            case 11:
                a = number(0, 1);
                same("image(" + a + ")", real.image(a), model.image(a));
                break;
            default:
                a = number(0, 1);
                same("restore(" + a + ")", real.restore(a), model.restore(a));
        }
    }

    private void ask(int kind) {
        int k = number(1, 3);
        int b;
        switch (kind) {
            case 0:
                b = number(0, 9);
                same("walk(" + b + ")", real.walk(b), model.walk(b));
                break;
            case 1:
                b = number(0, 2); k = number(0, 23);
                same("of(" + k + ", " + b + ")", real.of(k, b), model.of(k, b));
                break;
            case 2:
                b = number(0, 3);
                same("run(" + k + ", " + b + ")", real.run(k, b), model.run(k, b));
                break;
            case 3:
                b = number(0, 23);
                same("out(" + k + ", " + b + ")", real.out(k, b), model.out(k, b));
                break;
            case 4:
                b = number(0, 23);
                same("spilled(" + k + ", " + b + ")", real.spilled(k, b), model.spilled(k, b));
                break;
            case 5:
                b = number(0, 3);
                same("load(" + k + ", " + b + ")", real.load(k, b), model.load(k, b));
                break;
            case 6:
                same("rise()", real.rise(), model.rise());
                break;
            case 7:
                b = random.nextBoolean() ? number(0, 2) : number(10, 19);
                same("best(" + k + ", " + b + ")", real.best(k, b), model.best(k, b));
                break;
            case 8:
                same("fewest()", real.fewest(), model.fewest());
                break;
            case 9:
                same("needs(" + k + ")", real.needs(k), model.needs(k));
                break;
            default:
                b = random.nextBoolean() ? number(0, 6) : number(10, 19);
                same("count(" + b + ")", real.count(b), model.count(b));
        }
    }

    /** Asks for all that is cheap, so that a call that changed too much or too little is seen. */
    private void askAll() {
        for (int what = -1; what <= 20; what++) same("count(" + what + ")", real.count(what), model.count(what));
        for (int i = 0; i < 10; i++) same("walk(" + i + ")", real.walk(i), model.walk(i));
        for (int l = 0; l < model.count(0); l++) {
            for (int what = 0; what < 3; what++) same("of(" + l + ", " + what + ")", real.of(l, what), model.of(l, what));
        }
        for (int k = 1; k <= 3; k++) {
            for (int what = 0; what < 4; what++) same("run(" + k + ", " + what + ")", real.run(k, what), model.run(k, what));
            for (int i = -1; i <= model.count(0); i++) same("out(" + k + ", " + i + ")", real.out(k, i), model.out(k, i));
            for (int l = 0; l < model.count(0); l++) same("spilled(" + k + ", " + l + ")", real.spilled(k, l), model.spilled(k, l));
            for (int s = 0; s < 4; s++) same("load(" + k + ", " + s + ")", real.load(k, s), model.load(k, s));
        }
        same("rise()", real.rise(), model.rise());
    }

    /** The plans as well: dear for the model, so for few points only. */
    private void askPlans() {
        for (int k = 1; k <= 3; k++) {
            for (int what = 0; what < 20; what++) same("best(" + k + ", " + what + ")", real.best(k, what), model.best(k, what));
            same("needs(" + k + ")", real.needs(k), model.needs(k));
        }
        same("fewest()", real.fewest(), model.fewest());
    }

    private int play() {
        boolean asksAll = seed % 2 == 0;
        boolean asksPlans = asksAll && points <= 4;
        int calls = CALLS - (asksAll ? CALLS_OF_ALL : 0) - (asksPlans ? CALLS_OF_PLANS : 0);
        while (asked < calls) {
            if (random.nextInt(3) == 0) change(random.nextInt(13));
            else ask(random.nextInt(11));
        }
        if (asksAll) askAll();
        if (asksPlans) askPlans();
        if (asked > CALLS) {
            wrong++;
            System.out.println("seed " + seed + ": " + asked + " calls are too many for one object");
        }
        return wrong;
    }

    public static void main(String[] args) {
        int wrong = 0;
        for (int seed = 0; seed < 600; seed++) wrong += new ModelTest(seed, 1 + seed / 2 % 4, seed % 3 != 0).play();
        for (int seed = 600; seed < 660; seed++) wrong += new ModelTest(seed, 5 + seed / 2 % 2, seed % 3 != 0).play();
        for (int seed = 660; seed < 680; seed++) wrong += new ModelTest(seed, 7 + seed / 2 % 4, true).play();
        System.out.println(wrong == 0 ? "all answers are as the model's" : wrong + " answers are not as the model's");
        if (wrong != 0) System.exit(1);
    }
}
