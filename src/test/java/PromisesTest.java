/** Promise by promise: ordinary inputs, the edges that the document names, and wrong inputs. */
public final class PromisesTest {
    private static final int LEAST = Integer.MIN_VALUE, MOST = Integer.MAX_VALUE;
    private static int wrong = 0;
    private static int promise = 0;

    private static void due(String call, int got, int want) {
        if (got != want) {
            wrong++;
            System.out.println("promise " + promise + ": " + call + " answered " + got + ", due is " + want);
        }
    }

    private static void unchanged(WalkPasses x, String before, String call) {
        if (!Sheet.all(x).equals(before)) {
            wrong++;
            System.out.println("promise " + promise + ": " + call + " was refused, but changed something");
        }
    }

    /** Letters given as point and thick, one after the other. */
    private static WalkPasses with(int... pointsAndThicks) {
        WalkPasses x = new WalkPasses();
        for (int i = 0; i < pointsAndThicks.length; i += 2) x.letter(pointsAndThicks[i], pointsAndThicks[i + 1]);
        return x;
    }

    private static WalkPasses full() {
        WalkPasses x = new WalkPasses();
        for (int l = 0; l < 24; l++) x.letter(l % 10, 1 + l % 9);
        return x;
    }

    private static void newObject() {
        WalkPasses x = new WalkPasses();
        due("count(0)", x.count(0), 0);
        due("count(1)", x.count(1), 0);
        due("count(2)", x.count(2), 0);
        due("count(3)", x.count(3), 3);
        due("count(4)", x.count(4), 0);
        due("count(5)", x.count(5), 60);
        due("count(6)", x.count(6), 0);
        for (int p = 0; p < 10; p++) {
            due("walk(" + p + ")", x.walk(p), p);
            due("count(1" + p + ")", x.count(10 + p), 0);
        }
        due("restore(0)", x.restore(0), WalkPasses.STATE);
        due("restore(1)", x.restore(1), WalkPasses.STATE);
        due("stackers(4)", x.stackers(4), 3);
        for (int s = 0; s < 4; s++) due("room(" + s + ", 20)", x.room(s, 20), 20);
    }

    private static void letter() {
        WalkPasses x = new WalkPasses();
        due("letter(0, 1)", x.letter(0, 1), 0);
        due("letter(9, 9)", x.letter(9, 9), 1);
        due("letter(9, 9) again", x.letter(9, 9), 2);
        due("of(1, 0)", x.of(1, 0), 9);
        due("of(1, 1)", x.of(1, 1), 9);
        due("of(1, 2)", x.of(1, 2), 0);
        String before = Sheet.all(x);
        for (int p : new int[] {LEAST, -1, 10, MOST}) {
            due("letter(" + p + ", 5)", x.letter(p, 5), WalkPasses.UNKNOWN);
            due("letter(" + p + ", 0)", x.letter(p, 0), WalkPasses.UNKNOWN);
        }
        for (int t : new int[] {LEAST, -1, 0, 10, MOST}) due("letter(0, " + t + ")", x.letter(0, t), WalkPasses.OUTSIDE);
        unchanged(x, before, "letter");
        x = full();
        before = Sheet.all(x);
        due("letter(0, 1) of 25", x.letter(0, 1), WalkPasses.FULL);
        due("letter(0, 0) of 25", x.letter(0, 0), WalkPasses.OUTSIDE);
        due("letter(10, 0) of 25", x.letter(10, 0), WalkPasses.UNKNOWN);
        unchanged(x, before, "letter of 25");
        x.misread(23, 1);
        x.drop(23);
        due("letter(3, 2) of 24", x.letter(3, 2), 23);
        due("of(23, 2)", x.of(23, 2), 0);
    }

    private static void misread() {
        WalkPasses x = with(0, 1, 1, 2, 2, 3);
        due("misread(1, 1)", x.misread(1, 1), 1);
        due("misread(2, 1)", x.misread(2, 1), 2);
        due("misread(2, 1) again", x.misread(2, 1), 2);
        due("misread(1, 0)", x.misread(1, 0), 1);
        due("misread(0, 0)", x.misread(0, 0), 1);
        due("of(2, 2)", x.of(2, 2), 1);
        String before = Sheet.all(x);
        for (int l : new int[] {LEAST, -1, 3, 24, MOST}) {
            due("misread(" + l + ", 1)", x.misread(l, 1), WalkPasses.UNKNOWN);
            due("misread(" + l + ", 2)", x.misread(l, 2), WalkPasses.UNKNOWN);
        }
        for (int is : new int[] {LEAST, -1, 2, MOST}) due("misread(0, " + is + ")", x.misread(0, is), WalkPasses.OUTSIDE);
        unchanged(x, before, "misread");
    }

    private static void drop() {
        WalkPasses x = with(4, 1, 5, 2, 6, 3, 7, 4);
        x.misread(2, 1);
        String before = Sheet.all(x);
        for (int l : new int[] {LEAST, -1, 4, MOST}) due("drop(" + l + ")", x.drop(l), WalkPasses.UNKNOWN);
        unchanged(x, before, "drop");
        due("drop(1)", x.drop(1), 3);
        due("of(0, 0)", x.of(0, 0), 4);
        due("of(1, 0)", x.of(1, 0), 6);
        due("of(1, 1)", x.of(1, 1), 3);
        due("of(1, 2)", x.of(1, 2), 1);
        due("of(2, 0)", x.of(2, 0), 7);
        due("of(2, 2)", x.of(2, 2), 0);
        due("of(3, 0)", x.of(3, 0), WalkPasses.UNKNOWN);
        due("drop(2)", x.drop(2), 2);
        due("drop(0)", x.drop(0), 1);
        due("drop(0)", x.drop(0), 0);
        due("drop(0) of none", x.drop(0), WalkPasses.UNKNOWN);
        due("count(1)", x.count(1), 0);
    }

    private static void change() {
        WalkPasses x = new WalkPasses();
        due("change(2, 7)", x.change(2, 7), 7);
        due("walk(7)", x.walk(7), 2);
        due("walk(2)", x.walk(2), 7);
        due("change(2, 0)", x.change(2, 0), 0);
        due("walk(0)", x.walk(0), 2);
        due("walk(7)", x.walk(7), 0);
        due("change(0, 0)", x.change(0, 0), 7);
        String before = Sheet.all(x);
        for (int p : new int[] {LEAST, -1, 10, MOST}) {
            due("change(" + p + ", 3)", x.change(p, 3), WalkPasses.UNKNOWN);
            due("change(3, " + p + ")", x.change(3, p), WalkPasses.UNKNOWN);
            due("change(" + p + ", " + p + ")", x.change(p, p), WalkPasses.UNKNOWN);
        }
        due("change(4, 4)", x.change(4, 4), 4);
        unchanged(x, before, "change");
    }

    private static void walk() {
        WalkPasses x = new WalkPasses();
        x.change(0, 9);
        due("walk(0)", x.walk(0), 9);
        due("walk(5)", x.walk(5), 5);
        due("walk(9)", x.walk(9), 0);
        for (int i : new int[] {LEAST, -1, 10, MOST}) due("walk(" + i + ")", x.walk(i), WalkPasses.OUTSIDE);
    }

    private static void stackers() {
        WalkPasses x = new WalkPasses();
        due("room(2, 7)", x.room(2, 7), 20);
        due("stackers(2)", x.stackers(2), 3);
        due("stackers(2) again", x.stackers(2), 2);
        due("count(5)", x.count(5), 40);
        due("room(2, 9)", x.room(2, 9), WalkPasses.UNKNOWN);
        due("stackers(4)", x.stackers(4), 2);
        due("count(5)", x.count(5), 67);
        String before = Sheet.all(x);
        for (int v : new int[] {LEAST, -1, 0, 1, 5, MOST}) due("stackers(" + v + ")", x.stackers(v), WalkPasses.OUTSIDE);
        unchanged(x, before, "stackers");
    }

    private static void room() {
        WalkPasses x = new WalkPasses();
        due("room(0, 1)", x.room(0, 1), 20);
        due("room(0, 99)", x.room(0, 99), 1);
        due("room(0, 50)", x.room(0, 50), 99);
        due("room(1, 5)", x.room(1, 5), 20);
        String before = Sheet.all(x);
        for (int s : new int[] {LEAST, -1, 3, 4, MOST}) {
            due("room(" + s + ", 5)", x.room(s, 5), WalkPasses.UNKNOWN);
            due("room(" + s + ", 0)", x.room(s, 0), WalkPasses.UNKNOWN);
        }
        for (int v : new int[] {LEAST, -1, 0, 100, MOST}) due("room(0, " + v + ")", x.room(0, v), WalkPasses.OUTSIDE);
        unchanged(x, before, "room");
    }

    private static void code() {
        WalkPasses x = new WalkPasses();
        due("code(0, 63)", x.code(0, 63), 0);
        due("code(0, 7)", x.code(0, 7), 63);
        due("code(9, 1)", x.code(9, 1), 0);
        due("count(10)", x.count(10), 7);
        due("count(19)", x.count(19), 1);
        String before = Sheet.all(x);
        for (int p : new int[] {LEAST, -1, 10, MOST}) {
            due("code(" + p + ", 5)", x.code(p, 5), WalkPasses.UNKNOWN);
            due("code(" + p + ", 64)", x.code(p, 64), WalkPasses.UNKNOWN);
        }
        for (int v : new int[] {LEAST, -1, 64, MOST}) due("code(0, " + v + ")", x.code(0, v), WalkPasses.OUTSIDE);
        unchanged(x, before, "code");
    }

    private static void dense() {
        WalkPasses x = new WalkPasses();
        x.code(3, 33);
        due("dense() of none", x.dense(), 0);
        due("count(13)", x.count(13), 33);
        x.letter(8, 1);
        x.letter(2, 1);
        x.letter(8, 1);
        x.letter(5, 1);
        x.misread(1, 1);
        x.change(8, 2);
        due("dense()", x.dense(), 3);
        due("count(18)", x.count(18), 0);
        due("count(15)", x.count(15), 1);
        due("count(12)", x.count(12), 2);
        due("count(13)", x.count(13), 33);
        due("dense() of 10", full().dense(), 10);
    }

    private static void of() {
        WalkPasses x = with(7, 4, 3, 9);
        x.misread(1, 1);
        due("of(0, 0)", x.of(0, 0), 7);
        due("of(0, 1)", x.of(0, 1), 4);
        due("of(0, 2)", x.of(0, 2), 0);
        due("of(1, 2)", x.of(1, 2), 1);
        for (int l : new int[] {LEAST, -1, 2, MOST}) {
            due("of(" + l + ", 0)", x.of(l, 0), WalkPasses.UNKNOWN);
            due("of(" + l + ", 3)", x.of(l, 3), WalkPasses.UNKNOWN);
        }
        for (int what : new int[] {LEAST, -1, 3, MOST}) due("of(0, " + what + ")", x.of(0, what), WalkPasses.OUTSIDE);
    }

    /**
     * Three stackers of room 6, 6, 10; codes to the base 3: point 0 has 01, point 1 has 10, point 2 has 22.
     * At the first pass letters 1, 4 (5, then 2: too much) come to stacker 0, 0, 3 to stacker 1, 2 is misread, 5 goes to stacker 2.
     */
    private static WalkPasses sample() {
        WalkPasses x = with(0, 4, 1, 5, 2, 1, 0, 2, 1, 2, 2, 9);
        x.room(0, 6);
        x.room(1, 6);
        x.room(2, 10);
        x.code(0, 1);
        x.code(1, 3);
        x.code(2, 8);
        x.misread(2, 1);
        return x;
    }

    private static void run() {
        WalkPasses x = sample();
        due("run(1, 0)", x.run(1, 0), 4);
        due("run(1, 1)", x.run(1, 1), 2);
        due("run(1, 2)", x.run(1, 2), 2);
        due("run(1, 3)", x.run(1, 3), 2);
        due("run(2, 0)", x.run(2, 0), 4);
        due("run(2, 1)", x.run(2, 1), 2);
        due("run(2, 2)", x.run(2, 2), 0);
        due("run(2, 3)", x.run(2, 3), 0);
        due("run(3, 0): 4 and 2 fit in stacker 0 only without the 5", x.run(3, 0), 2);
        due("run(3, 1)", x.run(3, 1), 4);
        due("run(3, 3)", x.run(3, 3), 2);
        x.change(0, 2);
        due("run(2, 2) by another walk", x.run(2, 2), 5);
        x.room(0, 7);
        due("run(1, 0) with more room", x.run(1, 0), 5);
        for (int k : new int[] {LEAST, -1, 0, 4, MOST}) due("run(" + k + ", 0)", x.run(k, 0), WalkPasses.OUTSIDE);
        for (int what : new int[] {LEAST, -1, 4, MOST}) due("run(1, " + what + ")", x.run(1, what), WalkPasses.OUTSIDE);
        due("run(2, 2) of none", new WalkPasses().run(2, 2), 0);
        x = full();
        for (int p = 0; p < 10; p++) x.code(p, 3);
        due("run(1, 3): 1, 2, 3, 4, 5, 1, 2 and 1 thick go in", x.run(1, 3), 16);
        x.room(1, 6);
        due("run(2, 1)", x.run(2, 1), 21);
        due("run(2, 3): 1, 2 and 3 thick are left", x.run(2, 3), 5);
        x.misread(0, 1);
        due("run(1, 3) with the first misread: 2, 3, 4, 5 and 6 thick go in", x.run(1, 3), 19);
    }

    private static void out() {
        WalkPasses x = sample();
        int[][] outs = {{1, 0, 3, 5}, {0, 3, 1, 5}, {0, 3}};
        for (int k = 1; k <= 3; k++) {
            int[] out = outs[k - 1];
            for (int i = 0; i < out.length; i++) due("out(" + k + ", " + i + ")", x.out(k, i), out[i]);
            for (int i : new int[] {LEAST, -1, out.length, MOST}) due("out(" + k + ", " + i + ")", x.out(k, i), WalkPasses.NONE);
        }
        for (int k : new int[] {LEAST, -1, 0, 4, MOST}) {
            due("out(" + k + ", 0)", x.out(k, 0), WalkPasses.OUTSIDE);
            due("out(" + k + ", -1)", x.out(k, -1), WalkPasses.OUTSIDE);
        }
    }

    private static void spilled() {
        WalkPasses x = sample();
        int[][] passes = {{0, 0, 1, 0, 1, 0}, {0, 0, 1, 0, 1, 0}, {0, 3, 1, 0, 1, 3}};
        for (int k = 1; k <= 3; k++) {
            for (int l = 0; l < 6; l++) due("spilled(" + k + ", " + l + ")", x.spilled(k, l), passes[k - 1][l]);
        }
        for (int l : new int[] {LEAST, -1, 6, MOST}) due("spilled(1, " + l + ")", x.spilled(1, l), WalkPasses.UNKNOWN);
        for (int k : new int[] {LEAST, -1, 0, 4, MOST}) {
            due("spilled(" + k + ", 0)", x.spilled(k, 0), WalkPasses.OUTSIDE);
            due("spilled(" + k + ", 6)", x.spilled(k, 6), WalkPasses.OUTSIDE);
        }
    }

    private static void load() {
        WalkPasses x = sample();
        int[][] loads = {{5, 6, 9}, {6, 5, 9}, {6, 0, 0}};
        for (int k = 1; k <= 3; k++) {
            for (int s = 0; s < 3; s++) due("load(" + k + ", " + s + ")", x.load(k, s), loads[k - 1][s]);
        }
        for (int s : new int[] {LEAST, -1, 3, 4, MOST}) due("load(1, " + s + ")", x.load(1, s), WalkPasses.UNKNOWN);
        for (int k : new int[] {LEAST, -1, 0, 4, MOST}) {
            due("load(" + k + ", 0)", x.load(k, 0), WalkPasses.OUTSIDE);
            due("load(" + k + ", 3)", x.load(k, 3), WalkPasses.OUTSIDE);
        }
    }

    private static void rise() {
        WalkPasses x = new WalkPasses();
        due("rise() of none", x.rise(), 1);
        x.letter(3, 1);
        x.letter(3, 1);
        due("rise() of one point", x.rise(), 1);
        x.letter(6, 1);
        due("rise() of equal codes", x.rise(), 0);
        x.code(6, 1);
        due("rise()", x.rise(), 1);
        x.change(3, 6);
        due("rise() by another walk", x.rise(), 0);
        x.change(3, 6);
        x.letter(9, 1);
        x.misread(3, 1);
        due("rise() with a misread one", x.rise(), 0);
        x.drop(3);
        due("rise() without it", x.rise(), 1);
        x.letter(0, 1);
        x.code(0, 1);
        due("rise() with the first point of the walk", x.rise(), 0);
    }

    private static void best() {
        WalkPasses x = new WalkPasses();
        due("best(2, 0) of none", x.best(2, 0), 0);
        due("best(2, 1) of none", x.best(2, 1), 1);
        due("best(2, 2) of none", x.best(2, 2), 1);
        due("best(2, 10) of none", x.best(2, 10), WalkPasses.NONE);
        x = with(4, 9, 4, 9, 6, 3);
        x.room(0, 9);
        x.room(1, 18);
        x.room(2, 2);
        due("best(1, 2)", x.best(1, 2), 3);
        due("best(1, 0): codes 0 1, 0 2 and 1 2 cost 1, 2 and 1", x.best(1, 0), 1);
        due("best(1, 1)", x.best(1, 1), 2);
        due("best(1, 14)", x.best(1, 14), 0);
        due("best(1, 16)", x.best(1, 16), 1);
        due("best(1, 15)", x.best(1, 15), WalkPasses.NONE);
        x.room(2, 3);
        due("best(1, 0) with room", x.best(1, 0), 0);
        due("best(1, 1) with room", x.best(1, 1), 1);
        due("best(1, 14) with room", x.best(1, 14), 1);
        due("best(1, 16) with room", x.best(1, 16), 2);
        x.misread(2, 1);
        due("best(1, 0) with a misread one", x.best(1, 0), 1);
        due("best(1, 16) with a misread one", x.best(1, 16), 2);
        x.change(4, 6);
        due("best(1, 14) by another walk", x.best(1, 14), 1);
        due("best(1, 16) by another walk", x.best(1, 16), 0);
        x.letter(0, 1);
        x.letter(1, 1);
        due("best(1, 0): no plan", x.best(1, 0), WalkPasses.NONE);
        due("best(1, 1): no plan", x.best(1, 1), WalkPasses.NONE);
        due("best(1, 2): no plan", x.best(1, 2), 0);
        due("best(1, 14): no plan", x.best(1, 14), WalkPasses.NONE);
        due("best(3, 2) of 27 codes", x.best(3, 2), WalkPasses.NO);
        due("best(3, 3) of 27 codes", x.best(3, 3), WalkPasses.OUTSIDE);
        for (int k : new int[] {LEAST, -1, 0, 4, MOST}) due("best(" + k + ", 0)", x.best(k, 0), WalkPasses.OUTSIDE);
        for (int what : new int[] {LEAST, -1, 3, 9, 20, MOST}) due("best(1, " + what + ")", x.best(1, what), WalkPasses.OUTSIDE);
        x.stackers(2);
        due("best(3, 2) of 8 codes", x.best(3, 2), 70);
        x.stackers(4);
        due("best(3, 2) of 64 codes", x.best(3, 2), WalkPasses.NO);
        due("best(2, 2) of 16 codes", x.best(2, 2), 1820);
        due("best(2, 2) of 10 points", everywhere(4, 9).best(2, 2), 8008);
        x = everywhere(4, 9);
        x.drop(9);
        x.drop(8);
        due("best(2, 2) of 8 points", x.best(2, 2), 12870);
        x = new WalkPasses();
        for (int l = 0; l < 24; l++) x.letter(3 + l % 2, 9);
        for (int l = 0; l < 24; l++) x.misread(l, 1);
        due("best(1, 0) where all 24 are spilled", x.best(1, 0), 24);
        due("best(1, 1) where all 24 are spilled", x.best(1, 1), 3);
        due("best(1, 14) where all 24 are spilled", x.best(1, 14), 1);
        due("best(2, 2) of 10 points on 9 codes", everywhere(3, 9).best(2, 2), 0);
    }

    /** What was found for one state must not be told for another. */
    private static void bestIsAsThingsAre() {
        WalkPasses x = with(0, 5, 1, 5);
        due("best(1, 0)", x.best(1, 0), 0);
        due("room(0, 4)", x.room(0, 4), 20);
        due("best(1, 10) behind room", x.best(1, 10), 1);
        due("image(0)", x.image(0), 1);
        due("letter(0, 9)", x.letter(0, 9), 2);
        due("letter(0, 9)", x.letter(0, 9), 3);
        due("best(1, 0) behind letter", x.best(1, 0), 1);
        due("drop(3)", x.drop(3), 3);
        due("best(1, 0) behind drop", x.best(1, 0), 0);
        due("misread(0, 1)", x.misread(0, 1), 1);
        due("best(1, 0) behind misread", x.best(1, 0), 1);
        due("restore(0)", x.restore(0), 1);
        due("best(1, 0) behind restore", x.best(1, 0), 0);
        due("stackers(2)", x.stackers(2), 3);
        due("best(1, 0) behind stackers", x.best(1, 0), 1);
        due("best(1, 11)", x.best(1, 11), 1);
        due("change(0, 1)", x.change(0, 1), 1);
        due("best(1, 11) behind change", x.best(1, 11), 0);
        due("best(2, 2) behind best(1, ..)", x.best(2, 2), 6);
    }

    /** A letter at each point; so many stackers. */
    private static WalkPasses everywhere(int many, int thick) {
        WalkPasses x = new WalkPasses();
        x.stackers(many);
        for (int p = 0; p < 10; p++) x.letter(p, thick);
        return x;
    }

    private static void take() {
        WalkPasses x = with(4, 9, 4, 9, 6, 3);
        x.room(0, 9);
        x.room(1, 18);
        x.room(2, 3);
        x.code(5, 44);
        due("take(1)", x.take(1), 0);
        due("count(14)", x.count(14), 1);
        due("count(16)", x.count(16), 2);
        due("count(15)", x.count(15), 44);
        due("count(10)", x.count(10), 0);
        due("run(1, 1)", x.run(1, 1), 0);
        x.room(1, 9);
        due("take(1) with less room", x.take(1), 1);
        due("count(14) with less room", x.count(14), 0);
        String before = Sheet.all(x);
        for (int k : new int[] {LEAST, -1, 0, 4, MOST}) due("take(" + k + ")", x.take(k), WalkPasses.OUTSIDE);
        due("take(3) of 27 codes", x.take(3), WalkPasses.NO);
        unchanged(x, before, "take");
        x.letter(0, 1);
        x.letter(1, 1);
        before = Sheet.all(x);
        due("take(1): no plan", x.take(1), WalkPasses.NO);
        unchanged(x, before, "take of no plan");
        x = new WalkPasses();
        x.code(2, 5);
        due("take(1) of none", x.take(1), 0);
        due("count(12)", x.count(12), 5);
        x = with(0, 9, 1, 9);
        x.room(0, 1);
        due("take(1) with point 0", x.take(1), 0);
        due("count(10)", x.count(10), 1);
        due("count(11)", x.count(11), 2);
    }

    private static void fewest() {
        WalkPasses x = new WalkPasses();
        due("fewest() of none", x.fewest(), 1);
        x.stackers(2);
        x.letter(0, 1);
        x.letter(1, 1);
        due("fewest() of 2 points", x.fewest(), 1);
        x.letter(2, 1);
        due("fewest() of 3 points", x.fewest(), 2);
        x.letter(3, 1);
        x.letter(4, 1);
        due("fewest() of 5 points", x.fewest(), 3);
        x.stackers(3);
        due("fewest() of 5 points on 3 stackers", x.fewest(), 2);
        x = everywhere(3, 1);
        due("fewest() of 10 points on 9 codes", x.fewest(), WalkPasses.NONE);
        x.stackers(4);
        due("fewest() of 10 points on 16 codes", x.fewest(), 2);
        x = with(0, 9, 1, 9);
        x.room(0, 8);
        x.room(1, 8);
        due("fewest(): both would have to go to stacker 2 at each pass", x.fewest(), WalkPasses.NONE);
        x.misread(0, 1);
        due("fewest() with a misread one: it has a code, but no thick", x.fewest(), 1);
        x.room(2, 8);
        due("fewest(): one fits nowhere", x.fewest(), WalkPasses.NONE);
        x.misread(1, 1);
        due("fewest() of misread ones", x.fewest(), 1);
    }

    private static void needs() {
        WalkPasses x = new WalkPasses();
        for (int k = 1; k <= 2; k++) due("needs(" + k + ") of none", x.needs(k), 1);
        x = with(0, 4, 0, 5, 1, 3, 2, 7);
        due("needs(1)", x.needs(1), 9);
        x.misread(1, 1);
        due("needs(1) without a misread one", x.needs(1), 7);
        x.room(0, 1);
        String before = Sheet.all(x);
        due("needs(1) whatever the rooms", x.needs(1), 7);
        unchanged(x, before, "needs");
        x.letter(3, 1);
        due("needs(1): no plan", x.needs(1), WalkPasses.NONE);
        due("needs(2)", x.needs(2), 7);
        for (int k : new int[] {LEAST, -1, 0, 4, MOST}) due("needs(" + k + ")", x.needs(k), WalkPasses.OUTSIDE);
        due("needs(3) of 27 codes", x.needs(3), WalkPasses.NO);
        for (int l = 0; l < 4; l++) x.misread(l, 1);
        due("needs(2) of a letter of thick 1", x.needs(2), 1);
        x = new WalkPasses();
        for (int l = 0; l < 11; l++) x.letter(5, 9);
        due("needs(1) of 99", x.needs(1), 99);
        x.letter(5, 1);
        due("needs(1) of 100", x.needs(1), WalkPasses.NONE);
        x.stackers(2);
        due("needs(3) of 100", x.needs(3), WalkPasses.NONE);
        due("needs(2) of 10 points on 16 codes", everywhere(4, 9).needs(2), 27);
    }

    /** Changes something of each kind that an image keeps. */
    private static void changeAll(WalkPasses x) {
        x.stackers(4);
        x.room(3, 77);
        x.room(0, 55);
        x.drop(0);
        x.misread(0, 1);
        x.letter(9, 9);
        x.code(9, 9);
        x.change(0, 9);
    }

    private static void image() {
        WalkPasses x = sample();
        String before = Sheet.allButImages(x);
        due("image(1)", x.image(1), 1);
        due("count(6)", x.count(6), 2);
        due("image(0)", x.image(0), 1);
        due("count(6)", x.count(6), 3);
        due("nothing but images changes", Sheet.allButImages(x).equals(before) ? 1 : 0, 1);
        changeAll(x);
        String second = Sheet.all(x);
        due("image(1) in place of what was kept", x.image(1), 1);
        x.drop(0);
        x.restore(1);
        unchanged(x, second, "restore(1)");
        for (int k : new int[] {LEAST, -1, 2, 32, 33, MOST}) due("image(" + k + ")", x.image(k), WalkPasses.OUTSIDE);
        unchanged(x, second, "image");
        x.restore(0);
        due("image 0 is still the first", Sheet.allButImages(x).equals(before) ? 1 : 0, 1);
    }

    private static void restore() {
        WalkPasses x = sample();
        x.change(1, 8);
        String first = Sheet.allButImages(x);
        x.image(0);
        String before = Sheet.all(x);
        due("restore(1): nothing was kept", x.restore(1), WalkPasses.STATE);
        for (int k : new int[] {LEAST, -1, 2, 32, 33, MOST}) due("restore(" + k + ")", x.restore(k), WalkPasses.OUTSIDE);
        unchanged(x, before, "restore");
        changeAll(x);
        x.image(1);
        for (int n = 0; n < 2; n++) {
            due("restore(0)", x.restore(0), 1);
            due("all is as it was", Sheet.allButImages(x).equals(first) ? 1 : 0, 1);
            due("count(6): which images are kept is in no image", x.count(6), 3);
            changeAll(x);
        }
        x.restore(0);
        x.stackers(4);
        due("room(3, 5): of a stacker that there was not", x.room(3, 5), 20);
        due("change(9, 9): the place in the walk", x.change(9, 9), 9);
        due("change(0, 0): the place in the walk", x.change(0, 0), 0);
        x = new WalkPasses();
        before = Sheet.all(x);
        due("restore(0) of a new object", x.restore(0), WalkPasses.STATE);
        unchanged(x, before, "restore(0) of a new object");
    }

    private static void count() {
        WalkPasses x = sample();
        int[] due = {6, 1, 3, 3, 23, 22, 0};
        for (int what = 0; what < due.length; what++) due("count(" + what + ")", x.count(what), due[what]);
        int[] codes = {1, 3, 8, 0, 0, 0, 0, 0, 0, 0};
        for (int p = 0; p < 10; p++) due("count(1" + p + ")", x.count(10 + p), codes[p]);
        x.stackers(2);
        due("count(5) of two", x.count(5), 12);
        x.misread(2, 0);
        x.drop(2);
        x.drop(4);
        due("count(2) without point 2", x.count(2), 2);
        for (int what : new int[] {LEAST, -1, 7, 8, 9, 20, MOST}) due("count(" + what + ")", x.count(what), WalkPasses.OUTSIDE);
        x = everywhere(3, 9);
        due("count(2) of 10 points", x.count(2), 10);
        due("count(4) of 10 points", x.count(4), 90);
    }

    public static void main(String[] args) {
        promise = 1; newObject();
        promise = 2; letter();
        promise = 3; misread();
        promise = 4; drop();
        promise = 5; change();
        promise = 6; walk();
        promise = 7; stackers();
        promise = 8; room();
        promise = 9; code();
        promise = 10; dense();
        promise = 11; of();
        promise = 12; run();
        promise = 13; out();
        promise = 14; spilled();
        promise = 15; load();
        promise = 16; rise();
        promise = 17; best();
        bestIsAsThingsAre();
        promise = 18; take();
        promise = 19; fewest();
        promise = 20; needs();
        promise = 21; image();
        promise = 22; restore();
        promise = 23; count();
        System.out.println(wrong == 0 ? "all answers are as due" : wrong + " answers are not as due");
        if (wrong != 0) System.exit(1);
    }
}
