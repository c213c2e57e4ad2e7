/** The boundary cases that promises 1 to 23 name: each sentence has a test of its own. */
public final class BoundaryCallsTest {
    private static final Sheet SHEET = new Sheet();

    private static void due(String call, int got, int want) {
        SHEET.due(call, got, want);
    }

    // ---- 1 a new object

    private static void newHasNoLetters() {
        WalkPasses x = new WalkPasses();
        int[] counts = {0, 0, 0, 3, 0, 60, 0};
        for (int what = 0; what < counts.length; what++) due("count(" + what + ")", x.count(what), counts[what]);
        due("of(0, 0)", x.of(0, 0), WalkPasses.UNKNOWN);
        due("misread(0, 1)", x.misread(0, 1), WalkPasses.UNKNOWN);
        due("drop(0)", x.drop(0), WalkPasses.UNKNOWN);
        due("spilled(1, 0)", x.spilled(1, 0), WalkPasses.UNKNOWN);
        for (int what = 0; what < 4; what++) due("run(3, " + what + ")", x.run(3, what), 0);
        due("out(1, 0)", x.out(1, 0), WalkPasses.NONE);
        due("load(1, 2)", x.load(1, 2), 0);
    }

    private static void newKeepsNoImage() {
        WalkPasses x = new WalkPasses();
        due("count(6)", x.count(6), 0);
        due("restore(0)", x.restore(0), WalkPasses.STATE);
        due("restore(1)", x.restore(1), WalkPasses.STATE);
    }

    /** What one object is told is not told by another. */
    private static void newIsItsOwn() {
        WalkPasses x = Sheet.with(0, 1, 1, 9);
        x.image(0);
        x.code(3, 3);
        x.change(1, 2);
        x.room(0, 1);
        x.stackers(2);
        String expected = "0 / many 3 codes 0 0 0 0 0 0 0 0 0 0 walk 0 1 2 3 4 5 6 7 8 9 places 0 1 2 3 4 5 6 7 8 9 letters rooms 20 20 20 20";
        SHEET.unchanged(new WalkPasses(), expected, "what another object was told");
    }

    // ---- 2 letter

    private static void letterNumber() {
        WalkPasses x = new WalkPasses();
        for (int l = 0; l < 24; l++) due("letter(5, 5) of " + l, x.letter(5, 5), l);
        x.drop(0);
        due("letter(5, 5) behind drop", x.letter(5, 5), 23);
    }

    private static void letterUnknown() {
        WalkPasses x = new WalkPasses();
        for (int p : Sheet.outside(0, 9)) {
            due("letter(" + p + ", 1)", x.letter(p, 1), WalkPasses.UNKNOWN);
            due("letter(" + p + ", 0)", x.letter(p, 0), WalkPasses.UNKNOWN);
        }
        due("count(0)", x.count(0), 0);
    }

    private static void letterOutside() {
        WalkPasses x = new WalkPasses();
        for (int t : Sheet.outside(1, 9)) {
            due("letter(0, " + t + ")", x.letter(0, t), WalkPasses.OUTSIDE);
            due("letter(9, " + t + ")", x.letter(9, t), WalkPasses.OUTSIDE);
        }
        due("count(0)", x.count(0), 0);
    }

    /** Misread ones count; a letter that goes makes place for one; images have no part in it. */
    private static void letterFull() {
        WalkPasses x = Sheet.heap(23, 0, 1);
        x.image(0);
        due("letter of 23", x.letter(1, 9), 23);
        Sheet.allMisread(x);
        due("letter of 24", x.letter(1, 9), WalkPasses.FULL);
        due("letter of 24 again", x.letter(1, 9), WalkPasses.FULL);
        due("count(4)", x.count(4), 32);
        x.drop(23);
        due("letter behind drop", x.letter(1, 9), 23);
        x.restore(0);
        due("letter behind restore", x.letter(1, 9), 23);
        due("letter behind that", x.letter(1, 9), WalkPasses.FULL);
    }

    // ---- 3 misread

    private static void misreadHowMany() {
        WalkPasses x = Sheet.heap(24, 0, 1);
        due("misread(0, 0) of none", x.misread(0, 0), 0);
        for (int l = 0; l < 24; l++) due("misread(" + l + ", 1)", x.misread(l, 1), l + 1);
        due("misread(23, 1) again", x.misread(23, 1), 24);
        due("misread(0, 0)", x.misread(0, 0), 23);
        due("misread(0, 0) again", x.misread(0, 0), 23);
        due("of(0, 2)", x.of(0, 2), 0);
        due("of(1, 2)", x.of(1, 2), 1);
    }

    private static void misreadUnknown() {
        WalkPasses x = Sheet.with(0, 1, 0, 1, 0, 1);
        x.drop(2);
        for (int l : Sheet.outside(0, 1)) {
            due("misread(" + l + ", 1)", x.misread(l, 1), WalkPasses.UNKNOWN);
            due("misread(" + l + ", 2)", x.misread(l, 2), WalkPasses.UNKNOWN);
        }
        due("misread(24, 1) of 24", Sheet.heap(24, 0, 1).misread(24, 1), WalkPasses.UNKNOWN);
        due("count(1)", x.count(1), 0);
    }

    private static void misreadOutside() {
        WalkPasses x = Sheet.with(0, 1, 0, 1);
        x.misread(1, 1);
        for (int is : Sheet.outside(0, 1)) {
            due("misread(0, " + is + ")", x.misread(0, is), WalkPasses.OUTSIDE);
            due("misread(1, " + is + ")", x.misread(1, is), WalkPasses.OUTSIDE);
        }
        due("count(1)", x.count(1), 1);
    }

    // ---- 4 drop

    private static void dropLowersNumbers() {
        WalkPasses x = Sheet.with(4, 1, 5, 2, 6, 3, 7, 4);
        x.misread(2, 1);
        due("drop(0): the first", x.drop(0), 3);
        int[][] rest = {{5, 2, 0}, {6, 3, 1}, {7, 4, 0}};
        for (int l = 0; l < 3; l++) {
            for (int what = 0; what < 3; what++) due("of(" + l + ", " + what + ")", x.of(l, what), rest[l][what]);
        }
        due("drop(2): the last", x.drop(2), 2);
        due("of(0, 0): lesser numbers stay", x.of(0, 0), 5);
        due("of(1, 2): lesser numbers stay", x.of(1, 2), 1);
        due("of(2, 0)", x.of(2, 0), WalkPasses.UNKNOWN);
    }

    private static void dropHowManyAreLeft() {
        WalkPasses x = Sheet.heap(24, 0, 1);
        due("drop(23): the last of 24", x.drop(23), 23);
        for (int left = 22; left >= 0; left--) due("drop(0)", x.drop(0), left);
        due("count(0)", x.count(0), 0);
        due("count(2)", x.count(2), 0);
        due("count(4)", x.count(4), 0);
        due("letter(0, 1)", x.letter(0, 1), 0);
    }

    private static void dropUnknown() {
        WalkPasses x = new WalkPasses();
        due("drop(0) of none", x.drop(0), WalkPasses.UNKNOWN);
        due("drop(-1) of none", x.drop(-1), WalkPasses.UNKNOWN);
        x.letter(0, 1);
        for (int l : Sheet.outside(0, 0)) due("drop(" + l + ")", x.drop(l), WalkPasses.UNKNOWN);
        due("drop(24) of 24", Sheet.heap(24, 0, 1).drop(24), WalkPasses.UNKNOWN);
        due("drop(0)", x.drop(0), 0);
        due("drop(0) again", x.drop(0), WalkPasses.UNKNOWN);
    }

    // ---- 5 change

    private static void changePlaces() {
        WalkPasses x = new WalkPasses();
        due("change(0, 9)", x.change(0, 9), 9);
        due("walk(9)", x.walk(9), 0);
        due("walk(0)", x.walk(0), 9);
        due("change(0, 9): back", x.change(0, 9), 0);
        due("walk(0)", x.walk(0), 0);
        due("change(9, 0): the place of the first one", x.change(9, 0), 0);
        due("change(0, 5): of points, not of places", x.change(0, 5), 5);
        due("walk(9): 5 has the place of 0", x.walk(9), 5);
    }

    private static void changeUnknown() {
        WalkPasses x = new WalkPasses();
        x.change(0, 3);
        String before = Sheet.all(x);
        for (int p : Sheet.outside(0, 9)) {
            due("change(" + p + ", 5)", x.change(p, 5), WalkPasses.UNKNOWN);
            due("change(5, " + p + ")", x.change(5, p), WalkPasses.UNKNOWN);
            due("change(" + p + ", " + p + ")", x.change(p, p), WalkPasses.UNKNOWN);
        }
        SHEET.unchanged(x, before, "change of no point");
    }

    private static void changeOfOne() {
        WalkPasses x = new WalkPasses();
        x.change(0, 9);
        String before = Sheet.all(x);
        due("change(0, 0)", x.change(0, 0), 9);
        due("change(9, 9)", x.change(9, 9), 0);
        due("change(4, 4)", x.change(4, 4), 4);
        SHEET.unchanged(x, before, "change of one point");
    }

    // ---- 6 walk

    private static void walkFromZero() {
        WalkPasses x = new WalkPasses();
        x.change(0, 8);
        x.change(9, 1);
        int[] walk = {8, 9, 2, 3, 4, 5, 6, 7, 0, 1};
        for (int i = 0; i < 10; i++) due("walk(" + i + ")", x.walk(i), walk[i]);
    }

    private static void walkOutside() {
        WalkPasses x = new WalkPasses();
        for (int i : Sheet.outside(0, 9)) due("walk(" + i + ")", x.walk(i), WalkPasses.OUTSIDE);
    }

    // ---- 7 stackers

    private static void stackersWhichItWas() {
        WalkPasses x = new WalkPasses();
        due("stackers(3): as it is", x.stackers(3), 3);
        due("stackers(2)", x.stackers(2), 3);
        due("stackers(4)", x.stackers(4), 2);
        due("stackers(4) again", x.stackers(4), 4);
        due("count(3)", x.count(3), 4);
    }

    private static void stackersOutside() {
        WalkPasses x = new WalkPasses();
        x.stackers(2);
        for (int v : Sheet.outside(2, 4)) due("stackers(" + v + ")", x.stackers(v), WalkPasses.OUTSIDE);
        due("stackers(0)", x.stackers(0), WalkPasses.OUTSIDE);
        due("count(3)", x.count(3), 2);
    }

    // ---- 8 room

    private static void roomWhichItWas() {
        WalkPasses x = new WalkPasses();
        due("room(0, 1)", x.room(0, 1), 20);
        due("room(0, 99)", x.room(0, 99), 1);
        due("room(0, 99) again", x.room(0, 99), 99);
        due("room(2, 20)", x.room(2, 20), 20);
        due("count(5)", x.count(5), 139);
    }

    private static void roomUnknown() {
        WalkPasses x = new WalkPasses();
        for (int many = 4; many >= 2; many--) {
            x.stackers(many);
            due("room of the last of " + many, x.room(many - 1, 20), 20);
            for (int s : Sheet.outside(0, many - 1)) {
                due("room(" + s + ", 5) of " + many, x.room(s, 5), WalkPasses.UNKNOWN);
                due("room(" + s + ", 0) of " + many, x.room(s, 0), WalkPasses.UNKNOWN);
            }
        }
        x.stackers(4);
        due("count(5): what is refused changes nothing", x.count(5), 80);
    }

    private static void roomOutside() {
        WalkPasses x = new WalkPasses();
        for (int v : Sheet.outside(1, 99)) {
            due("room(0, " + v + ")", x.room(0, v), WalkPasses.OUTSIDE);
            due("room(2, " + v + ")", x.room(2, v), WalkPasses.OUTSIDE);
        }
        due("count(5)", x.count(5), 60);
    }

    // ---- 9 code

    private static void codeWhichItWas() {
        WalkPasses x = new WalkPasses();
        due("code(9, 63)", x.code(9, 63), 0);
        due("code(9, 63) again", x.code(9, 63), 63);
        due("code(9, 0)", x.code(9, 0), 63);
        due("code(0, 0)", x.code(0, 0), 0);
    }

    private static void codeUnknown() {
        WalkPasses x = new WalkPasses();
        for (int p : Sheet.outside(0, 9)) {
            due("code(" + p + ", 5)", x.code(p, 5), WalkPasses.UNKNOWN);
            due("code(" + p + ", 64)", x.code(p, 64), WalkPasses.UNKNOWN);
        }
        for (int p = 0; p < 10; p++) due("count(1" + p + ")", x.count(10 + p), 0);
    }

    private static void codeOutside() {
        WalkPasses x = new WalkPasses();
        x.code(0, 7);
        for (int v : Sheet.outside(0, 63)) {
            due("code(0, " + v + ")", x.code(0, v), WalkPasses.OUTSIDE);
            due("code(9, " + v + ")", x.code(9, v), WalkPasses.OUTSIDE);
        }
        due("count(10)", x.count(10), 7);
        due("count(19)", x.count(19), 0);
    }

    // ---- 10 dense

    private static void denseOfAll() {
        WalkPasses x = Sheet.allMisread(Sheet.row(3, 10, 1));
        x.change(0, 9);
        due("dense() of ten points, all misread", x.dense(), 10);
        due("count(19): the first by the walk", x.count(19), 0);
        due("count(10): the last by the walk", x.count(10), 9);
        for (int p = 1; p < 9; p++) due("count(1" + p + ")", x.count(10 + p), p);
    }

    private static void denseKeepsOthers() {
        WalkPasses x = new WalkPasses();
        for (int p = 0; p < 10; p++) x.code(p, 63 - p);
        String before = Sheet.all(x);
        due("dense() of no letter", x.dense(), 0);
        SHEET.unchanged(x, before, "dense() of no letter");
        x.letter(9, 1);
        x.letter(9, 1);
        due("dense() of one point", x.dense(), 1);
        due("count(19)", x.count(19), 0);
        for (int p = 0; p < 9; p++) due("count(1" + p + ")", x.count(10 + p), 63 - p);
    }

    // ---- 11 of

    private static void ofWhat() {
        WalkPasses x = Sheet.with(0, 9, 9, 1);
        x.misread(1, 1);
        int[][] is = {{0, 9, 0}, {9, 1, 1}};
        for (int l = 0; l < 2; l++) {
            for (int what = 0; what < 3; what++) due("of(" + l + ", " + what + ")", x.of(l, what), is[l][what]);
        }
    }

    private static void ofUnknown() {
        due("of(0, 0) of none", new WalkPasses().of(0, 0), WalkPasses.UNKNOWN);
        due("of(24, 0) of 24", Sheet.heap(24, 0, 1).of(24, 0), WalkPasses.UNKNOWN);
        WalkPasses x = Sheet.with(0, 9, 9, 1);
        for (int l : Sheet.outside(0, 1)) {
            for (int what = -1; what <= 3; what++) due("of(" + l + ", " + what + ")", x.of(l, what), WalkPasses.UNKNOWN);
        }
    }

    private static void ofOutside() {
        WalkPasses x = Sheet.with(0, 9);
        for (int what : Sheet.outside(0, 2)) due("of(0, " + what + ")", x.of(0, what), WalkPasses.OUTSIDE);
    }

    // ---- 12 to 15: runs

    /** Two stackers, the second without room: points 0 to 4 have the codes 0, 1, 10, 100 and 1000 to the base 2. */
    private static WalkPasses shelves() {
        WalkPasses x = Sheet.row(2, 5, 5);
        x.room(0, 99);
        x.room(1, 4);
        int[] codes = {0, 1, 2, 4, 8};
        for (int p = 0; p < 5; p++) x.code(p, codes[p]);
        return x;
    }

    private static void runWhat() {
        WalkPasses x = shelves();
        int[][] due = {{4, 1, 0, 1}, {3, 2, 0, 1}, {2, 3, 0, 1}};
        for (int k = 1; k <= 3; k++) {
            for (int what = 0; what < 4; what++) due("run(" + k + ", " + what + ")", x.run(k, what), due[k - 1][what]);
        }
        x.change(0, 4);
        due("run(1, 2) by another walk: 0 and 4 have changed places, 2 and 3 are between", x.run(1, 2), 5);
    }

    private static void runOfAllAndNone() {
        WalkPasses x = Sheet.heap(24, 0, 4);
        x.room(0, 96);
        due("run(3, 0): all 24 are out", x.run(3, 0), 24);
        due("run(3, 1)", x.run(3, 1), 0);
        x.room(0, 3);
        due("run(3, 0): none is out", x.run(3, 0), 0);
        due("run(3, 1): all 24 are spilled", x.run(3, 1), 24);
        due("run(3, 3): none was left for the last pass", x.run(3, 3), 0);
        due("run(1, 3)", x.run(1, 3), 24);
    }

    private static void runOutside() {
        WalkPasses x = Sheet.with(0, 1);
        for (int k : Sheet.outside(1, 3)) {
            due("run(" + k + ", 0)", x.run(k, 0), WalkPasses.OUTSIDE);
            due("run(" + k + ", 4)", x.run(k, 4), WalkPasses.OUTSIDE);
        }
        for (int what : Sheet.outside(0, 3)) {
            for (int k = 1; k <= 3; k++) due("run(" + k + ", " + what + ")", x.run(k, what), WalkPasses.OUTSIDE);
        }
    }

    private static void outNone() {
        WalkPasses x = shelves();
        for (int k = 1; k <= 3; k++) {
            int size = 5 - k;
            due("out(" + k + ", 0)", x.out(k, 0), 0);
            due("out(" + k + ", " + (size - 1) + "): the last", x.out(k, size - 1), 4);
            for (int i : Sheet.outside(0, size - 1)) due("out(" + k + ", " + i + ")", x.out(k, i), WalkPasses.NONE);
        }
        due("out(1, 0) of none", new WalkPasses().out(1, 0), WalkPasses.NONE);
        x = Sheet.heap(24, 0, 1);
        x.room(0, 24);
        due("out(1, 23)", x.out(1, 23), 23);
        due("out(1, 24)", x.out(1, 24), WalkPasses.NONE);
    }

    private static void outOutside() {
        WalkPasses x = Sheet.with(0, 1);
        for (int k : Sheet.outside(1, 3)) {
            due("out(" + k + ", 0)", x.out(k, 0), WalkPasses.OUTSIDE);
            due("out(" + k + ", -1)", x.out(k, -1), WalkPasses.OUTSIDE);
            due("out(" + k + ", 1)", x.out(k, 1), WalkPasses.OUTSIDE);
        }
    }

    private static void spilledAtWhich() {
        WalkPasses x = shelves();
        int[][] at = {{0, 1, 0, 0, 0}, {0, 1, 2, 0, 0}, {0, 1, 2, 3, 0}};
        for (int k = 1; k <= 3; k++) {
            for (int l = 0; l < 5; l++) due("spilled(" + k + ", " + l + ")", x.spilled(k, l), at[k - 1][l]);
        }
    }

    private static void spilledOutside() {
        WalkPasses x = Sheet.with(0, 1);
        for (int k : Sheet.outside(1, 3)) {
            due("spilled(" + k + ", 0)", x.spilled(k, 0), WalkPasses.OUTSIDE);
            due("spilled(" + k + ", 1): no letter either", x.spilled(k, 1), WalkPasses.OUTSIDE);
            due("spilled(" + k + ", -1): no letter either", x.spilled(k, -1), WalkPasses.OUTSIDE);
        }
    }

    private static void spilledUnknown() {
        WalkPasses x = Sheet.with(0, 1, 1, 1);
        for (int k = 1; k <= 3; k++) {
            due("spilled(" + k + ", 0) of none", new WalkPasses().spilled(k, 0), WalkPasses.UNKNOWN);
            for (int l : Sheet.outside(0, 1)) due("spilled(" + k + ", " + l + ")", x.spilled(k, l), WalkPasses.UNKNOWN);
        }
        due("spilled(1, 24) of 24", Sheet.heap(24, 0, 1).spilled(1, 24), WalkPasses.UNKNOWN);
    }

    /** That of the k-th pass, not of all passes; nothing lies there but what goes in. */
    private static void loadAheadOfSweeping() {
        WalkPasses x = shelves();
        int[] loads = {20, 15, 10};
        for (int k = 1; k <= 3; k++) {
            due("load(" + k + ", 0)", x.load(k, 0), loads[k - 1]);
            due("load(" + k + ", 1)", x.load(k, 1), 0);
        }
        x.room(1, 5);
        for (int k = 1; k <= 3; k++) due("load(" + k + ", 1): as much as there is room", x.load(k, 1), 5);
        due("load(3, 0) of none", new WalkPasses().load(3, 0), 0);
    }

    private static void loadOutside() {
        WalkPasses x = Sheet.with(0, 1);
        for (int k : Sheet.outside(1, 3)) {
            due("load(" + k + ", 0)", x.load(k, 0), WalkPasses.OUTSIDE);
            due("load(" + k + ", 3): no stacker either", x.load(k, 3), WalkPasses.OUTSIDE);
            due("load(" + k + ", -1): no stacker either", x.load(k, -1), WalkPasses.OUTSIDE);
        }
    }

    private static void loadUnknown() {
        WalkPasses x = Sheet.with(0, 1);
        for (int many = 4; many >= 2; many--) {
            x.stackers(many);
            due("load(3, " + (many - 1) + ") of " + many, x.load(3, many - 1), 0);
            for (int s : Sheet.outside(0, many - 1)) due("load(3, " + s + ") of " + many, x.load(3, s), WalkPasses.UNKNOWN);
        }
    }

    // ---- 16 rise

    private static void riseOneOrZero() {
        WalkPasses x = new WalkPasses();
        due("rise() of none", x.rise(), 1);
        x = Sheet.row(3, 10, 1);
        due("rise() of equal codes", x.rise(), 0);
        for (int p = 0; p < 10; p++) x.code(p, 54 + p);
        due("rise() up to 63", x.rise(), 1);
        x.code(0, 55);
        due("rise(): the first is equal to the second", x.rise(), 0);
        x.code(0, 0);
        x.code(9, 62);
        due("rise(): the last is equal to the last but one", x.rise(), 0);
        x.drop(9);
        due("rise() without the last letter", x.rise(), 1);
    }

    // ---- 17 best

    private static void bestCost() {
        due("best(1, 0) of none", new WalkPasses().best(1, 0), 0);
        WalkPasses x = Sheet.rooms(Sheet.row(3, 3, 5), 5);
        due("best(1, 0): each fills a stacker", x.best(1, 0), 0);
        x.room(1, 4);
        due("best(1, 0): there is one plan only", x.best(1, 0), 1);
        due("best(2, 0)", x.best(2, 0), 1);
        x.misread(1, 1);
        due("best(1, 0) with the one misread", x.best(1, 0), 1);
        Sheet.rooms(x, 1);
        due("best(1, 0): nothing goes in", x.best(1, 0), 3);
    }

    private static void bestHowManyOfThatCost() {
        due("best(1, 1) of none", new WalkPasses().best(1, 1), 1);
        WalkPasses x = Sheet.rooms(Sheet.row(3, 1, 5), 5);
        due("best(1, 1)", x.best(1, 1), 3);
        due("best(2, 1)", x.best(2, 1), 9);
        x.room(1, 4);
        due("best(1, 1) without one stacker", x.best(1, 1), 2);
        due("best(2, 1) without one stacker", x.best(2, 1), 4);
        Sheet.rooms(x, 4);
        due("best(2, 1): all cost as much", x.best(2, 1), 9);
        due("best(2, 0)", x.best(2, 0), 1);
    }

    private static void bestHowMany() {
        due("best(1, 2) of none", new WalkPasses().best(1, 2), 1);
        due("best(2, 2) of 9 points on 9 codes", Sheet.row(3, 9, 1).best(2, 2), 1);
        due("best(2, 2) of 10 points on 9 codes", Sheet.row(3, 10, 1).best(2, 2), 0);
        due("best(2, 2) of 8 points on 16 codes", Sheet.row(4, 8, 1).best(2, 2), 12870);
        due("best(2, 2) of 24 letters at one point", Sheet.heap(24, 0, 9).best(2, 2), 9);
    }

    private static void bestCode() {
        WalkPasses x = Sheet.rooms(Sheet.with(9, 5, 0, 5), 5);
        x.room(0, 4);
        due("best(1, 10): the first point", x.best(1, 10), 1);
        due("best(1, 19): the last point", x.best(1, 19), 2);
        for (int what = 11; what < 19; what++) due("best(1, " + what + "): no letter there", x.best(1, what), WalkPasses.NONE);
        x.drop(0);
        due("best(1, 19): no letter there any more", x.best(1, 19), WalkPasses.NONE);
        Sheet.allMisread(x);
        due("best(1, 10): a misread one only", x.best(1, 10), 0);
        for (int what = 10; what < 20; what++) due("best(1, " + what + ") of none", new WalkPasses().best(1, what), WalkPasses.NONE);
    }

    private static void bestWithoutPlan() {
        WalkPasses x = Sheet.row(3, 3, 1);
        due("best(1, 0) of 3 points", x.best(1, 0), 0);
        x.letter(3, 1);
        due("best(1, 0) of 4 points", x.best(1, 0), WalkPasses.NONE);
        due("best(1, 1) of 4 points", x.best(1, 1), WalkPasses.NONE);
        due("best(1, 2) of 4 points", x.best(1, 2), 0);
        for (int what = 10; what < 20; what++) due("best(1, " + what + ") of 4 points", x.best(1, what), WalkPasses.NONE);
        due("best(2, 0) of 4 points", x.best(2, 0), 0);
    }

    private static void bestOutside() {
        WalkPasses x = Sheet.with(0, 1);
        for (int k : Sheet.outside(1, 3)) {
            due("best(" + k + ", 0)", x.best(k, 0), WalkPasses.OUTSIDE);
            due("best(" + k + ", 3)", x.best(k, 3), WalkPasses.OUTSIDE);
        }
        for (int what : new int[] {-1, 3, 4, 5, 6, 7, 8, 9, 20, 21, 256, 266, 65546, Sheet.LEAST, Sheet.LEAST + 10, Sheet.MOST}) {
            due("best(1, " + what + ")", x.best(1, what), WalkPasses.OUTSIDE);
            due("best(3, " + what + "): ahead of NO", x.best(3, what), WalkPasses.OUTSIDE);
        }
    }

    private static void bestNo() {
        WalkPasses x = Sheet.with(0, 1);
        due("best(3, 0): 27", x.best(3, 0), WalkPasses.NO);
        due("best(3, 2): 27", x.best(3, 2), WalkPasses.NO);
        due("best(3, 11): 27, and no letter there", x.best(3, 11), WalkPasses.NO);
        due("best(2, 0): 9", x.best(2, 0), 0);
        x.stackers(4);
        due("best(3, 0): 64", x.best(3, 0), WalkPasses.NO);
        due("best(2, 0): 16", x.best(2, 0), 0);
        x.stackers(2);
        due("best(3, 0): 8", x.best(3, 0), 0);
    }

    // ---- 18 take

    private static void takeCodes() {
        WalkPasses x = Sheet.rooms(Sheet.with(9, 5, 0, 5), 5);
        x.room(0, 4);
        for (int p = 0; p < 10; p++) x.code(p, 63 - p);
        x.misread(0, 1);
        due("take(1): the misread one is spilled", x.take(1), 1);
        due("count(10)", x.count(10), 1);
        due("count(19): a misread one's point", x.count(19), 2);
        for (int p = 1; p < 9; p++) due("count(1" + p + "): no letter there", x.count(10 + p), 63 - p);
        x = new WalkPasses();
        x.code(0, 5);
        String before = Sheet.all(x);
        due("take(2) of none", x.take(2), 0);
        SHEET.unchanged(x, before, "take of none");
    }

    private static void takeOutside() {
        WalkPasses x = Sheet.with(0, 1);
        x.code(0, 33);
        for (int k : Sheet.outside(1, 3)) due("take(" + k + ")", x.take(k), WalkPasses.OUTSIDE);
        due("count(10)", x.count(10), 33);
    }

    private static void takeNo() {
        WalkPasses x = Sheet.row(3, 10, 1);
        x.code(4, 33);
        String before = Sheet.all(x);
        due("take(1): no plan", x.take(1), WalkPasses.NO);
        due("take(2): no plan", x.take(2), WalkPasses.NO);
        due("take(3): 27", x.take(3), WalkPasses.NO);
        SHEET.unchanged(x, before, "take");
        x.stackers(4);
        due("take(3): 64", x.take(3), WalkPasses.NO);
        due("take(2): 16", x.take(2), 0);
        x.stackers(3);
        x.drop(9);
        due("take(2): one plan", x.take(2), 0);
        for (int p = 0; p < 9; p++) due("count(1" + p + ")", x.count(10 + p), p);
        x.stackers(2);
        due("take(3): 9 points on 8 codes", x.take(3), WalkPasses.NO);
        x.drop(8);
        due("take(3): 8 points on 8 codes", x.take(3), 0);
    }

    // ---- 19 fewest

    private static void fewestPasses() {
        int[][] manyPointsPasses = {
            {2, 0, 1}, {2, 2, 1}, {2, 3, 2}, {2, 4, 2}, {2, 5, 3}, {2, 8, 3},
            {3, 3, 1}, {3, 4, 2}, {3, 9, 2}, {4, 4, 1}, {4, 5, 2}, {4, 10, 2}};
        for (int[] c : manyPointsPasses) {
            due("fewest() of " + c[1] + " points on " + c[0] + " stackers", Sheet.row(c[0], c[1], 1).fewest(), c[2]);
            WalkPasses x = Sheet.rooms(Sheet.allMisread(Sheet.row(c[0], c[1], 9)), 1);
            due("fewest() of " + c[1] + " misread ones on " + c[0] + " stackers", x.fewest(), c[2]);
        }
    }

    private static void fewestByRoom() {
        WalkPasses x = Sheet.rooms(Sheet.row(3, 3, 5), 5);
        due("fewest(): each fills a stacker", x.fewest(), 1);
        x.room(2, 4);
        due("fewest(): one does not go in", x.fewest(), WalkPasses.NONE);
        x.room(0, 10);
        due("fewest(): three in two stackers, by two passes", x.fewest(), 2);
        x.room(0, 9);
        due("fewest(): two do not go in one", x.fewest(), WalkPasses.NONE);
        x.misread(1, 1);
        due("fewest(): but for what is misread; it needs a code", x.fewest(), 2);
    }

    /** By three passes all would go in, but 27 and 64 are above 16; 16 itself is not. */
    private static void fewestAtMostSixteen() {
        due("fewest() of 10 points on 3 stackers", Sheet.row(3, 10, 1).fewest(), WalkPasses.NONE);
        due("fewest() of 10 misread ones on 3 stackers", Sheet.allMisread(Sheet.row(3, 10, 1)).fewest(), WalkPasses.NONE);
        WalkPasses x = Sheet.rooms(Sheet.row(4, 10, 9), 27);
        due("fewest() of 10 points on 4 stackers", x.fewest(), 2);
        Sheet.rooms(x, 26);
        due("fewest() of 10 points on 4 stackers with less room", x.fewest(), WalkPasses.NONE);
    }

    private static void fewestNone() {
        due("fewest() of 9 points on 2 stackers", Sheet.row(2, 9, 1).fewest(), WalkPasses.NONE);
        WalkPasses x = Sheet.heap(12, 0, 9);
        Sheet.rooms(x, 99);
        due("fewest() of 108 at one point", x.fewest(), WalkPasses.NONE);
        x.drop(0);
        due("fewest() of 99 at one point", x.fewest(), 1);
    }

    // ---- 20 needs

    private static void needsLeast() {
        due("needs(1) of none", new WalkPasses().needs(1), 1);
        due("needs(1) of misread ones", Sheet.allMisread(Sheet.row(3, 3, 9)).needs(1), 1);
        due("needs(1) of three of 1", Sheet.row(3, 3, 1).needs(1), 1);
        due("needs(1) of three of 2", Sheet.row(3, 3, 2).needs(1), 2);
        due("needs(1) of 99 at one point", Sheet.heap(11, 0, 9).needs(1), 99);
        due("needs(2) of 99 at one point", Sheet.heap(11, 0, 9).needs(2), 99);
        WalkPasses x = Sheet.heap(11, 0, 9);
        for (int l = 0; l < 11; l++) x.letter(1, 9);
        due("needs(1) of 99 at each of two points", x.needs(1), 99);
        due("needs(2) of 10 points of 9 on 4 stackers", Sheet.row(4, 10, 9).needs(2), 27);
    }

    /** 8 points on 2 stackers have one plan of 3 passes: the last four lie in stacker 1 at the third pass only. */
    private static void needsByEachPass() {
        WalkPasses x = Sheet.row(2, 4, 1);
        for (int p = 4; p < 8; p++) x.letter(p, 9);
        due("needs(3)", x.needs(3), 36);
        Sheet.rooms(x, 36);
        due("fewest() with that room", x.fewest(), 3);
        Sheet.rooms(x, 35);
        due("fewest() with less", x.fewest(), WalkPasses.NONE);
    }

    /** The one of 7 must be alone at each pass (as by 00, 11, 22), so that none of the first plans will do. */
    private static void needsNotByTheFirstPlan() {
        WalkPasses x = Sheet.with(0, 1, 1, 7, 2, 5);
        due("needs(2)", x.needs(2), 7);
        x = Sheet.with(0, 8, 1, 8);
        due("needs(2) of two of 8", x.needs(2), 8);
    }

    private static void needsNone() {
        WalkPasses x = Sheet.heap(11, 0, 9);
        x.letter(0, 1);
        due("needs(1) of 100 at one point", x.needs(1), WalkPasses.NONE);
        due("needs(2) of 100 at one point", x.needs(2), WalkPasses.NONE);
        x.misread(11, 1);
        due("needs(1) but for what is misread", x.needs(1), 99);
        x = Sheet.row(3, 4, 1);
        due("needs(1) without a plan", x.needs(1), WalkPasses.NONE);
        Sheet.allMisread(x);
        due("needs(1) without a plan, of misread ones", x.needs(1), WalkPasses.NONE);
        due("needs(2)", x.needs(2), 1);
        due("needs(3) of 9 points on 8 codes", Sheet.row(2, 9, 1).needs(3), WalkPasses.NONE);
    }

    private static void needsChangesNothing() {
        WalkPasses x = Sheet.rooms(Sheet.row(3, 3, 5), 3);
        x.room(1, 99);
        x.code(1, 44);
        due("best(1, 0)", x.best(1, 0), 2);
        String before = Sheet.all(x);
        due("needs(1): whatever the rooms are", x.needs(1), 5);
        due("needs(1) again", x.needs(1), 5);
        SHEET.unchanged(x, before, "needs");
        due("best(1, 0) behind needs", x.best(1, 0), 2);
        due("fewest() behind needs", x.fewest(), WalkPasses.NONE);
    }

    private static void needsOutside() {
        WalkPasses x = Sheet.with(0, 1);
        for (int k : Sheet.outside(1, 3)) due("needs(" + k + ")", x.needs(k), WalkPasses.OUTSIDE);
    }

    private static void needsNo() {
        WalkPasses x = Sheet.with(0, 1);
        due("needs(3): 27", x.needs(3), WalkPasses.NO);
        due("needs(2): 9", x.needs(2), 1);
        x.stackers(4);
        due("needs(3): 64", x.needs(3), WalkPasses.NO);
        due("needs(2): 16", x.needs(2), 1);
        x.stackers(2);
        due("needs(3): 8", x.needs(3), 1);
        due("needs(3) of 12 times 9 at a point: 27", Sheet.heap(12, 0, 9).needs(3), WalkPasses.NO);
    }

    // ---- 21 image, 22 restore

    /** Unlike a new object in each thing that an image keeps. */
    private static WalkPasses furnished() {
        WalkPasses x = Sheet.with(3, 7, 8, 2, 3, 1);
        x.misread(1, 1);
        x.stackers(4);
        x.room(3, 33);
        x.stackers(2);
        x.room(1, 11);
        x.code(4, 44);
        x.change(2, 8);
        return x;
    }

    private static void upset(WalkPasses x) {
        x.drop(0);
        x.misread(0, 0);
        x.letter(9, 9);
        x.stackers(4);
        for (int s = 0; s < 4; s++) x.room(s, 90 + s);
        for (int p = 0; p < 10; p++) x.code(p, 50 + p);
        for (int p = 0; p < 5; p++) x.change(p, 9 - p);
    }

    private static void imageKeepsAll() {
        WalkPasses x = furnished();
        String kept = Sheet.allButImages(x);
        due("image(0)", x.image(0), 1);
        due("image(1)", x.image(1), 1);
        due("whether all but images is as it was", Sheet.allButImages(x).equals(kept) ? 1 : 0, 1);
        upset(x);
        due("restore(1)", x.restore(1), 1);
        SHEET.unchanged(x, "3 / " + kept, "what was done behind image(1), then restore(1),");
    }

    private static void imageInPlaceOfOther() {
        WalkPasses x = furnished();
        String first = Sheet.allButImages(x);
        x.image(0);
        x.image(1);
        upset(x);
        String second = Sheet.allButImages(x);
        due("image(0) again", x.image(0), 1);
        x.restore(1);
        SHEET.unchanged(x, "3 / " + first, "image(0), then restore(1),");
        x.restore(0);
        SHEET.unchanged(x, "3 / " + second, "restore(1), then restore(0),");
    }

    private static void imageOfNothing() {
        WalkPasses x = new WalkPasses();
        due("image(1) of a new object", x.image(1), 1);
        due("count(6)", x.count(6), 2);
        String before = Sheet.all(x);
        upset(x);
        due("restore(1)", x.restore(1), 1);
        SHEET.unchanged(x, before, "restore(1) of a new object");
        due("restore(0): nothing was kept there", x.restore(0), WalkPasses.STATE);
    }

    private static void imageOutside() {
        WalkPasses x = furnished();
        x.image(0);
        for (int k : Sheet.outside(0, 1)) due("image(" + k + ")", x.image(k), WalkPasses.OUTSIDE);
        for (int k : new int[] {32, 33, 31, 64}) due("image(" + k + "): no shift that wraps", x.image(k), WalkPasses.OUTSIDE);
        due("count(6)", x.count(6), 1);
    }

    private static void restoreAll() {
        WalkPasses x = furnished();
        x.image(0);
        String kept = Sheet.all(x);
        due("best(1, 2)", x.best(1, 2), 1);
        upset(x);
        due("best(1, 2): 3 points on 4 codes", x.best(1, 2), 4);
        due("restore(0)", x.restore(0), 1);
        due("best(1, 2) behind restore", x.best(1, 2), 1);
        SHEET.unchanged(x, kept, "restore(0)");
    }

    /** It can be restored again and again, and what comes behind does not reach it. */
    private static void restoreLeavesImage() {
        WalkPasses x = furnished();
        x.image(1);
        String kept = Sheet.all(x);
        for (int n = 0; n < 3; n++) {
            upset(x);
            due("restore(1)", x.restore(1), 1);
            SHEET.unchanged(x, kept, "restore(1) for time " + n);
        }
        due("count(6)", x.count(6), 2);
    }

    /** Images are not in images: one that is kept later stays kept. */
    private static void restoreLeavesOtherImage() {
        WalkPasses x = new WalkPasses();
        x.image(0);
        x.letter(1, 1);
        x.image(1);
        x.restore(0);
        due("count(0)", x.count(0), 0);
        due("count(6)", x.count(6), 3);
        due("restore(1)", x.restore(1), 1);
        due("count(0)", x.count(0), 1);
    }

    private static void restoreOutside() {
        WalkPasses x = furnished();
        x.image(0);
        x.image(1);
        upset(x);
        String before = Sheet.all(x);
        for (int k : Sheet.outside(0, 1)) due("restore(" + k + ")", x.restore(k), WalkPasses.OUTSIDE);
        for (int k : new int[] {32, 33, 31, 64}) due("restore(" + k + "): no shift that wraps", x.restore(k), WalkPasses.OUTSIDE);
        SHEET.unchanged(x, before, "restore of no image");
    }

    private static void restoreState() {
        WalkPasses x = furnished();
        String before = Sheet.all(x);
        due("restore(0)", x.restore(0), WalkPasses.STATE);
        due("restore(1)", x.restore(1), WalkPasses.STATE);
        SHEET.unchanged(x, before, "restore of what was not kept");
        x.image(1);
        due("restore(0) behind image(1)", x.restore(0), WalkPasses.STATE);
        due("restore(1) behind image(1)", x.restore(1), 1);
    }

    // ---- 23 count

    private static void countMost() {
        WalkPasses x = new WalkPasses();
        x.stackers(4);
        Sheet.rooms(x, 99);
        for (int l = 0; l < 24; l++) x.letter(l % 10, 9);
        Sheet.allMisread(x);
        x.image(0);
        x.image(1);
        int[] counts = {24, 24, 10, 4, 216, 396, 3};
        for (int what = 0; what < counts.length; what++) due("count(" + what + ")", x.count(what), counts[what]);
    }

    private static void countLeast() {
        WalkPasses x = new WalkPasses();
        x.stackers(2);
        Sheet.rooms(x, 1);
        int[] counts = {0, 0, 0, 2, 0, 2, 0};
        for (int what = 0; what < counts.length; what++) due("count(" + what + ") of none", x.count(what), counts[what]);
        x.letter(0, 1);
        x.misread(0, 1);
        int[] ofOne = {1, 1, 1, 2, 1, 2, 0};
        for (int what = 0; what < ofOne.length; what++) due("count(" + what + ") of one", x.count(what), ofOne[what]);
    }

    /** Those that there are not now keep their rooms, but are not added. */
    private static void countRooms() {
        WalkPasses x = new WalkPasses();
        int[] rooms = {1, 10, 30, 99};
        x.stackers(4);
        for (int s = 0; s < 4; s++) x.room(s, rooms[s]);
        int[] sums = {11, 41, 140};
        for (int many = 2; many <= 4; many++) {
            x.stackers(many);
            due("count(5) of " + many, x.count(5), sums[many - 2]);
        }
    }

    private static void countImages() {
        WalkPasses x = new WalkPasses();
        due("count(6)", x.count(6), 0);
        x.image(1);
        due("count(6) behind image(1)", x.count(6), 2);
        x.image(1);
        due("count(6) behind image(1) again", x.count(6), 2);
        x.image(0);
        due("count(6) behind image(0)", x.count(6), 3);
        x.restore(1);
        due("count(6) behind restore(1)", x.count(6), 3);
        x = new WalkPasses();
        x.image(0);
        due("count(6) of image 0 alone", x.count(6), 1);
    }

    private static void countCodes() {
        WalkPasses x = new WalkPasses();
        for (int p = 0; p < 10; p++) x.code(p, 63 - p);
        x.change(0, 9);
        for (int p = 0; p < 10; p++) due("count(1" + p + "): of the point, whatever its place", x.count(10 + p), 63 - p);
    }

    private static void countOutside() {
        WalkPasses x = Sheet.with(0, 1);
        for (int what : new int[] {-1, -10, 7, 8, 9, 20, 21, 256, 266, 65546, -246, Sheet.LEAST, Sheet.LEAST + 10, Sheet.MOST}) {
            due("count(" + what + ")", x.count(what), WalkPasses.OUTSIDE);
        }
    }

    private static void promises1To6() {
        SHEET.sentence("1: No LETTERS", BoundaryCallsTest::newHasNoLetters);
        SHEET.sentence("1: no IMAGE is kept.", BoundaryCallsTest::newKeepsNoImage);
        SHEET.sentence("1: A new object", BoundaryCallsTest::newIsItsOwn);
        SHEET.sentence("2: A LETTER more: its number.", BoundaryCallsTest::letterNumber);
        SHEET.sentence("2: UNKNOWN: the POINT", BoundaryCallsTest::letterUnknown);
        SHEET.sentence("2: OUTSIDE: THICK", BoundaryCallsTest::letterOutside);
        SHEET.sentence("2: FULL: there are 24.", BoundaryCallsTest::letterFull);
        SHEET.sentence("3: A LETTER is MISREAD (is = 1), or not (0): how many are.", BoundaryCallsTest::misreadHowMany);
        SHEET.sentence("3: UNKNOWN", BoundaryCallsTest::misreadUnknown);
        SHEET.sentence("3: OUTSIDE", BoundaryCallsTest::misreadOutside);
        SHEET.sentence("4: those of greater numbers have each a number less by 1 then", BoundaryCallsTest::dropLowersNumbers);
        SHEET.sentence("4: how many are left", BoundaryCallsTest::dropHowManyAreLeft);
        SHEET.sentence("4: UNKNOWN", BoundaryCallsTest::dropUnknown);
        SHEET.sentence("5: Two POINTS change their places in THE WALK: the place, from 0 on, of the first one then.",
            BoundaryCallsTest::changePlaces);
        SHEET.sentence("5: UNKNOWN: both", BoundaryCallsTest::changeUnknown);
        SHEET.sentence("5: (they may be one: nothing changes)", BoundaryCallsTest::changeOfOne);
        SHEET.sentence("6: The POINT at place i of THE WALK, from 0 on.", BoundaryCallsTest::walkFromZero);
        SHEET.sentence("6: OUTSIDE: i is not 0 to 9.", BoundaryCallsTest::walkOutside);
    }

    private static void promises7To11() {
        SHEET.sentence("7: MANY is v: which it was.", BoundaryCallsTest::stackersWhichItWas);
        SHEET.sentence("7: OUTSIDE", BoundaryCallsTest::stackersOutside);
        SHEET.sentence("8: ROOM of a STACKER that there is now is v: which it was.", BoundaryCallsTest::roomWhichItWas);
        SHEET.sentence("8: UNKNOWN", BoundaryCallsTest::roomUnknown);
        SHEET.sentence("8: OUTSIDE", BoundaryCallsTest::roomOutside);
        SHEET.sentence("9: CODE of a POINT is v: which it was.", BoundaryCallsTest::codeWhichItWas);
        SHEET.sentence("9: UNKNOWN", BoundaryCallsTest::codeUnknown);
        SHEET.sentence("9: OUTSIDE", BoundaryCallsTest::codeOutside);
        SHEET.sentence("10: POINTS that LETTERS have (MISREAD ones, too) get the CODES 0, 1, 2 and so on, in the order of THE WALK",
            BoundaryCallsTest::denseOfAll);
        SHEET.sentence("10: all others keep theirs: how many got one", BoundaryCallsTest::denseKeepsOthers);
        SHEET.sentence("11: Of a LETTER: POINT (what = 0), THICK (1), whether it is MISREAD (2: 1, 0).", BoundaryCallsTest::ofWhat);
        SHEET.sentence("11: UNKNOWN", BoundaryCallsTest::ofUnknown);
        SHEET.sentence("11: OUTSIDE", BoundaryCallsTest::ofOutside);
    }

    private static void promises12To16() {
        SHEET.sentence("12: how many LETTERS are OUT (what = 0), SPILLED (1), WRONG (2), how many were SPILLED at the last PASS (3)",
            BoundaryCallsTest::runWhat);
        SHEET.sentence("12: how many LETTERS are OUT", BoundaryCallsTest::runOfAllAndNone);
        SHEET.sentence("12: OUTSIDE: both.", BoundaryCallsTest::runOutside);
        SHEET.sentence("13: NONE: there is none such (i below 0, too).", BoundaryCallsTest::outNone);
        SHEET.sentence("13: OUTSIDE: k.", BoundaryCallsTest::outOutside);
        SHEET.sentence("14: At which of k PASSES of a RUN a LETTER is SPILLED, 1 to k; 0: at none.", BoundaryCallsTest::spilledAtWhich);
        SHEET.sentence("14: OUTSIDE: k", BoundaryCallsTest::spilledOutside);
        SHEET.sentence("14: UNKNOWN: the LETTER.", BoundaryCallsTest::spilledUnknown);
        SHEET.sentence("15: at the end of the k-th PASS of a RUN, ahead of sweeping", BoundaryCallsTest::loadAheadOfSweeping);
        SHEET.sentence("15: OUTSIDE: k", BoundaryCallsTest::loadOutside);
        SHEET.sentence("15: UNKNOWN: the STACKER.", BoundaryCallsTest::loadUnknown);
        SHEET.sentence("16: Whether CODES RISE: 1, 0.", BoundaryCallsTest::riseOneOrZero);
    }

    private static void promises17To20() {
        SHEET.sentence("17: its COST (what = 0)", BoundaryCallsTest::bestCost);
        SHEET.sentence("17: how many PLANS have that COST (1)", BoundaryCallsTest::bestHowManyOfThatCost);
        SHEET.sentence("17: how many PLANS there are (2)", BoundaryCallsTest::bestHowMany);
        SHEET.sentence("17: its CODE of POINT what less 10 (10 to 19; NONE: no LETTER has that POINT)", BoundaryCallsTest::bestCode);
        SHEET.sentence("17: NONE (but of 2): there is no PLAN.", BoundaryCallsTest::bestWithoutPlan);
        SHEET.sentence("17: OUTSIDE: both", BoundaryCallsTest::bestOutside);
        SHEET.sentence("17: NO: MANY to the power of k is above 16.", BoundaryCallsTest::bestNo);
        SHEET.sentence("18: CODES of the POINTS that LETTERS have are those of BEST of k: its COST.", BoundaryCallsTest::takeCodes);
        SHEET.sentence("18: OUTSIDE", BoundaryCallsTest::takeOutside);
        SHEET.sentence("18: NO: MANY to the power of k is above 16, or there is no PLAN.", BoundaryCallsTest::takeNo);
        SHEET.sentence("19: The least k, 1 to 3", BoundaryCallsTest::fewestPasses);
        SHEET.sentence("19: such that there is a PLAN of k PASSES by which nothing is SPILLED but what is MISREAD",
            BoundaryCallsTest::fewestByRoom);
        SHEET.sentence("19: MANY to the power of k being 16 at most", BoundaryCallsTest::fewestAtMostSixteen);
        SHEET.sentence("19: NONE: there is none.", BoundaryCallsTest::fewestNone);
        SHEET.sentence("20: The least v, 1 to 99", BoundaryCallsTest::needsLeast);
        SHEET.sentence("20: ROOM of each STACKER being v, there is a PLAN of k PASSES by which nothing is SPILLED but what is MISREAD",
            () -> {
                needsByEachPass();
                needsNotByTheFirstPlan();
            });
        SHEET.sentence("20: NONE: there is none.", BoundaryCallsTest::needsNone);
        SHEET.sentence("20: Nothing changes.", BoundaryCallsTest::needsChangesNothing);
        SHEET.sentence("20: OUTSIDE: k", BoundaryCallsTest::needsOutside);
        SHEET.sentence("20: NO: MANY to the power of k is above 16.", BoundaryCallsTest::needsNo);
    }

    private static void promises21To23() {
        SHEET.sentence("21: All but IMAGES is kept in an IMAGE (0, 1)", () -> {
            imageKeepsAll();
            imageOfNothing();
        });
        SHEET.sentence("21: in place of what was kept there: 1", BoundaryCallsTest::imageInPlaceOfOther);
        SHEET.sentence("21: OUTSIDE", BoundaryCallsTest::imageOutside);
        SHEET.sentence("22: All but IMAGES is as it was when it was kept", BoundaryCallsTest::restoreAll);
        SHEET.sentence("22: the IMAGE stays: 1", BoundaryCallsTest::restoreLeavesImage);
        SHEET.sentence("22: All but IMAGES", BoundaryCallsTest::restoreLeavesOtherImage);
        SHEET.sentence("22: OUTSIDE", BoundaryCallsTest::restoreOutside);
        SHEET.sentence("22: STATE: nothing was kept in it.", BoundaryCallsTest::restoreState);
        SHEET.sentence("23: LETTERS (0), those that are MISREAD (1), POINTS that LETTERS have (2), MANY (3), THICKS of all LETTERS, added (4)",
            () -> {
                countMost();
                countLeast();
            });
        SHEET.sentence("23: ROOMS of all STACKERS that there are now, added (5)", BoundaryCallsTest::countRooms);
        SHEET.sentence("23: which IMAGES are kept, a set: bits 0, 1 (6)", BoundaryCallsTest::countImages);
        SHEET.sentence("23: CODE of POINT what less 10 (10 to 19)", BoundaryCallsTest::countCodes);
        SHEET.sentence("23: OUTSIDE", BoundaryCallsTest::countOutside);
    }

    public static void main(String[] args) {
        promises1To6();
        promises7To11();
        promises12To16();
        promises17To20();
        promises21To23();
        SHEET.end();
    }
}
