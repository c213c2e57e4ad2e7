/** The boundary cases that "What it is" and "Terms" name: each sentence has a test of its own. */
public final class BoundaryTermsTest {
    private static final Sheet SHEET = new Sheet();

    private static void due(String call, int got, int want) {
        SHEET.due(call, got, want);
    }

    // ---- What it is

    /** Each round asks for the dearest search anew; the 512th call is compared with that of an object that did nothing else. */
    private static void fiveHundredAndTwelveCalls() {
        WalkPasses x = new WalkPasses();
        for (int call = 1; call <= 32; call++) dearCall(x, call);
        for (int call = 33; call <= 511; call++) {
            if (call % 2 == 1) x.room(3, 1 + call % 99);
            else x.best(2, 0);
        }
        WalkPasses y = new WalkPasses();
        for (int call = 1; call <= 32; call++) dearCall(y, call);
        y.room(3, 1 + 511 % 99);
        due("the 512th call, best(2, 13)", x.best(2, 13), y.best(2, 13));
    }

    private static void dearCall(WalkPasses x, int call) {
        if (call == 1) x.stackers(4);
        else if (call <= 25) x.letter(call % 8, 1 + call % 9);
        else x.misread(call % 3, call % 2);
    }

    // ---- Terms: refusals

    private static void firstThatFits() {
        WalkPasses x = Sheet.heap(24, 0, 1);
        due("letter(10, 0) of 25", x.letter(10, 0), WalkPasses.UNKNOWN);
        due("letter(0, 0) of 25", x.letter(0, 0), WalkPasses.OUTSIDE);
        due("letter(0, 1) of 25", x.letter(0, 1), WalkPasses.FULL);
        due("misread(24, 2)", x.misread(24, 2), WalkPasses.UNKNOWN);
        due("room(3, 0)", x.room(3, 0), WalkPasses.UNKNOWN);
        due("code(10, 64)", x.code(10, 64), WalkPasses.UNKNOWN);
        due("of(24, 3)", x.of(24, 3), WalkPasses.UNKNOWN);
        due("spilled(0, 24)", x.spilled(0, 24), WalkPasses.OUTSIDE);
        due("load(0, 3)", x.load(0, 3), WalkPasses.OUTSIDE);
        due("best(3, 3)", x.best(3, 3), WalkPasses.OUTSIDE);
        due("best(4, 0)", x.best(4, 0), WalkPasses.OUTSIDE);
        due("take(4)", x.take(4), WalkPasses.OUTSIDE);
        due("needs(4)", x.needs(4), WalkPasses.OUTSIDE);
        due("restore(2)", x.restore(2), WalkPasses.OUTSIDE);
    }

    private static void unknown() {
        WalkPasses x = Sheet.with(0, 1);
        due("misread: no such letter", x.misread(1, 1), -1);
        due("letter: no such point", x.letter(10, 1), -1);
        due("room: no such stacker", x.room(3, 1), -1);
    }

    private static void outsideIsAnotherNumber() {
        WalkPasses x = Sheet.with(0, 1);
        due("letter(0, 10)", x.letter(0, 10), -2);
        due("walk(10): a place is no point", x.walk(10), -2);
        due("run(4, 0)", x.run(4, 0), -2);
    }

    private static void noneOnlyWithoutRefusal() {
        WalkPasses x = new WalkPasses();
        due("out(0, -1)", x.out(0, -1), WalkPasses.OUTSIDE);
        due("out(4, 0)", x.out(4, 0), WalkPasses.OUTSIDE);
        due("out(1, -1)", x.out(1, -1), -6);
        due("best(3, 10) of 27 codes", x.best(3, 10), WalkPasses.NO);
        due("best(4, 10)", x.best(4, 10), WalkPasses.OUTSIDE);
        due("best(1, 10)", x.best(1, 10), -6);
        x = Sheet.row(3, 10, 1);
        due("best(3, 0) where best(2, 0) is NONE", x.best(3, 0), WalkPasses.NO);
        due("best(2, 3) where best(2, 0) is NONE", x.best(2, 3), WalkPasses.OUTSIDE);
        due("needs(3) where needs(2) is NONE", x.needs(3), WalkPasses.NO);
        due("needs(0) where needs(2) is NONE", x.needs(0), WalkPasses.OUTSIDE);
        due("needs(2)", x.needs(2), -6);
    }

    /** 24 letters, something unlike a new object of each kind, an image in 0. */
    private static WalkPasses furnished() {
        WalkPasses x = new WalkPasses();
        for (int l = 0; l < 24; l++) x.letter(l % 10, 1 + l % 9);
        x.misread(5, 1);
        x.stackers(4);
        x.room(3, 33);
        x.stackers(3);
        x.room(1, 11);
        x.code(4, 44);
        x.change(2, 8);
        x.image(0);
        return x;
    }

    private static void refusedChangesNothing() {
        WalkPasses x = furnished();
        String before = Sheet.all(x);
        int[] refused = {
            x.letter(0, 1), x.letter(0, 0), x.letter(10, 1), x.misread(24, 1), x.misread(0, 2), x.drop(24), x.drop(-1),
            x.change(0, 10), x.change(10, 0), x.stackers(1), x.stackers(5), x.room(3, 5), x.room(0, 0), x.room(0, 100),
            x.code(10, 1), x.code(0, 64), x.code(0, -1), x.take(0), x.take(3), x.take(2), x.image(2), x.image(-1),
            x.restore(1), x.restore(2)};
        for (int i = 0; i < refused.length; i++) due("whether the " + i + "-th call is refused", refused[i] < 0 ? 1 : 0, 1);
        SHEET.unchanged(x, before, "one of the refused calls");
        x.restore(0);
        SHEET.unchanged(x, before, "a refused call changed image 0: restore(0)");
    }

    /** Each question is asked ahead of a change and behind it. */
    private static void asThingsAre() {
        WalkPasses x = Sheet.rooms(Sheet.with(0, 5, 1, 5), 5);
        due("run(1, 0)", x.run(1, 0), 1);
        due("best(1, 0)", x.best(1, 0), 0);
        due("fewest()", x.fewest(), 1);
        due("needs(1)", x.needs(1), 5);
        x.letter(1, 1);
        due("run(1, 1) behind letter", x.run(1, 1), 2);
        due("best(1, 0) behind letter", x.best(1, 0), 1);
        due("fewest() behind letter", x.fewest(), WalkPasses.NONE);
        due("needs(1) behind letter", x.needs(1), 6);
        x.room(1, 6);
        due("best(1, 0) behind room", x.best(1, 0), 0);
        due("fewest() behind room", x.fewest(), 1);
        x.code(1, 1);
        due("run(1, 0) behind code", x.run(1, 0), 3);
        x.change(0, 1);
        due("run(1, 2) behind change", x.run(1, 2), 2);
        due("best(1, 11) behind change", x.best(1, 11), 1);
        due("best(1, 10) behind change", x.best(1, 10), 2);
        x.stackers(2);
        due("best(1, 2) behind stackers", x.best(1, 2), 1);
        due("best(1, 0) behind stackers", x.best(1, 0), 1);
        x.misread(2, 1);
        due("fewest() behind misread", x.fewest(), 1);
        due("best(1, 0) behind misread", x.best(1, 0), 1);
        x.drop(2);
        due("best(1, 0) behind drop", x.best(1, 0), 0);
        due("needs(1) behind drop", x.needs(1), 5);
    }

    // ---- Terms 1

    private static void points() {
        WalkPasses x = new WalkPasses();
        due("letter(0, 1)", x.letter(0, 1), 0);
        due("letter(9, 1)", x.letter(9, 1), 1);
        due("code(0, 1)", x.code(0, 1), 0);
        due("code(9, 1)", x.code(9, 1), 0);
        due("change(0, 9)", x.change(0, 9), 9);
        for (int p : Sheet.outside(0, 9)) {
            due("letter(" + p + ", 1)", x.letter(p, 1), WalkPasses.UNKNOWN);
            due("code(" + p + ", 1)", x.code(p, 1), WalkPasses.UNKNOWN);
            due("change(" + p + ", 0)", x.change(p, 0), WalkPasses.UNKNOWN);
            due("change(0, " + p + ")", x.change(0, p), WalkPasses.UNKNOWN);
        }
    }

    private static void walkAtFirst() {
        WalkPasses x = new WalkPasses();
        for (int i = 0; i < 10; i++) due("walk(" + i + ")", x.walk(i), i);
    }

    /** Nothing is lost from it or doubled in it, whatever changes. */
    private static void walkIsOfAllPoints() {
        WalkPasses x = new WalkPasses();
        int[] changes = {0, 9, 9, 5, 3, 3, 5, 0, 0, 0, 8, 9, 1, 0, 7, 2};
        for (int c = 0; c < changes.length; c += 2) {
            x.change(changes[c], changes[c + 1]);
            int seen = 0;
            for (int i = 0; i < 10; i++) seen |= 1 << x.walk(i);
            due("the set of points behind change " + c / 2, seen, 1023);
        }
    }

    private static void upTo24Letters() {
        WalkPasses x = new WalkPasses();
        for (int l = 0; l < 24; l++) due("letter " + l, x.letter(l % 10, 1 + l % 9), l);
        due("letter 24", x.letter(0, 1), WalkPasses.FULL);
        due("count(0)", x.count(0), 24);
        for (int l = 0; l < 24; l++) {
            due("of(" + l + ", 0)", x.of(l, 0), l % 10);
            due("of(" + l + ", 1)", x.of(l, 1), 1 + l % 9);
        }
        due("of(24, 0)", x.of(24, 0), WalkPasses.UNKNOWN);
    }

    private static void thick() {
        WalkPasses x = new WalkPasses();
        due("letter(0, 1)", x.letter(0, 1), 0);
        due("letter(0, 9)", x.letter(0, 9), 1);
        due("of(0, 1)", x.of(0, 1), 1);
        due("of(1, 1)", x.of(1, 1), 9);
        for (int t : Sheet.outside(1, 9)) due("letter(0, " + t + ")", x.letter(0, t), WalkPasses.OUTSIDE);
    }

    /** Neither where a misread one had the number before. */
    private static void noneIsMisreadAsTold() {
        WalkPasses x = Sheet.heap(24, 3, 1);
        due("count(1)", x.count(1), 0);
        Sheet.allMisread(x);
        x.drop(23);
        x.letter(3, 1);
        due("of(23, 2)", x.of(23, 2), 0);
        due("count(1) behind it", x.count(1), 23);
    }

    private static void stackersAreBelowMany() {
        WalkPasses x = new WalkPasses();
        for (int many = 2; many <= 4; many++) {
            x.stackers(many);
            due("room(0, 20) of " + many, x.room(0, 20), 20);
            due("room of the last of " + many, x.room(many - 1, 20), 20);
            due("load of the last of " + many, x.load(1, many - 1), 0);
            for (int s : Sheet.outside(0, many - 1)) {
                due("room(" + s + ", 20) of " + many, x.room(s, 20), WalkPasses.UNKNOWN);
                due("load(1, " + s + ") of " + many, x.load(1, s), WalkPasses.UNKNOWN);
            }
        }
    }

    private static void many() {
        WalkPasses x = new WalkPasses();
        due("count(3)", x.count(3), 3);
        due("stackers(2)", x.stackers(2), 3);
        due("stackers(4)", x.stackers(4), 2);
        for (int v : Sheet.outside(2, 4)) due("stackers(" + v + ")", x.stackers(v), WalkPasses.OUTSIDE);
        due("count(3)", x.count(3), 4);
    }

    private static void roomBounds() {
        WalkPasses x = new WalkPasses();
        x.stackers(4);
        for (int s = 0; s < 4; s++) {
            due("room(" + s + ", 1)", x.room(s, 1), 20);
            due("room(" + s + ", 99)", x.room(s, 99), 1);
            for (int v : Sheet.outside(1, 99)) due("room(" + s + ", " + v + ")", x.room(s, v), WalkPasses.OUTSIDE);
            due("room(" + s + ", 50)", x.room(s, 50), 99);
        }
    }

    private static void roomsAreKept() {
        WalkPasses x = new WalkPasses();
        x.room(2, 7);
        x.stackers(4);
        x.room(3, 99);
        x.stackers(2);
        due("room(2, 1): not now", x.room(2, 1), WalkPasses.UNKNOWN);
        due("room(3, 1): not now", x.room(3, 1), WalkPasses.UNKNOWN);
        x.stackers(3);
        due("room(2, 7)", x.room(2, 7), 7);
        x.stackers(4);
        due("room(3, 99)", x.room(3, 99), 99);
        due("room(2, 7) again", x.room(2, 7), 7);
    }

    private static void codes() {
        WalkPasses x = new WalkPasses();
        for (int p = 0; p < 10; p++) due("code(" + p + ", 63)", x.code(p, 63), 0);
        due("code(0, 0)", x.code(0, 0), 63);
        for (int v : Sheet.outside(0, 63)) due("code(0, " + v + ")", x.code(0, v), WalkPasses.OUTSIDE);
        due("count(10)", x.count(10), 0);
        due("count(19)", x.count(19), 63);
    }

    // ---- Terms 1: passes and runs

    /** It is spilled however much room there is, takes none, and is spilled once only. */
    private static void misreadIsSpilledAtFirst() {
        WalkPasses x = Sheet.rooms(Sheet.with(0, 9, 0, 9), 9);
        x.misread(0, 1);
        for (int k = 1; k <= 3; k++) {
            due("spilled(" + k + ", 0)", x.spilled(k, 0), 1);
            due("spilled(" + k + ", 1)", x.spilled(k, 1), 0);
            due("load(" + k + ", 0)", x.load(k, 0), 9);
            due("run(" + k + ", 1)", x.run(k, 1), 1);
            due("run(" + k + ", 3)", x.run(k, 3), k == 1 ? 1 : 0);
        }
    }

    /** Figures that a code does not have are 0; those behind the k-th are not looked at. */
    private static void lastFigureIsFirst() {
        int[][] manyCodeFigures = {
            {2, 63, 1, 1, 1}, {2, 4, 0, 0, 1}, {2, 6, 0, 1, 1}, {2, 8, 0, 0, 0}, {2, 1, 1, 0, 0},
            {3, 63, 0, 0, 1}, {3, 5, 2, 1, 0}, {3, 27, 0, 0, 0}, {3, 26, 2, 2, 2}, {3, 62, 2, 2, 0},
            {4, 63, 3, 3, 3}, {4, 6, 2, 1, 0}, {4, 16, 0, 0, 1}, {4, 0, 0, 0, 0}, {4, 27, 3, 2, 1}};
        for (int[] c : manyCodeFigures) {
            WalkPasses x = Sheet.with(7, 8);
            x.stackers(c[0]);
            x.code(7, c[1]);
            for (int k = 1; k <= 3; k++) {
                for (int s = 0; s < c[0]; s++) {
                    due("load(" + k + ", " + s + ") of code " + c[1] + " to the base " + c[0], x.load(k, s), s == c[k + 1] ? 8 : 0);
                }
            }
        }
    }

    private static void aboveRoomIsSpilled() {
        WalkPasses x = Sheet.rooms(Sheet.with(0, 6, 0, 4), 10);
        due("run(1, 1): 6 and 4 are 10", x.run(1, 1), 0);
        x.room(0, 9);
        due("run(1, 1): 6 and 4 are above 9", x.run(1, 1), 1);
        x.letter(0, 3);
        due("spilled(1, 1)", x.spilled(1, 1), 1);
        due("spilled(1, 2): behind one that is spilled a thinner one goes in", x.spilled(1, 2), 0);
        due("load(1, 0)", x.load(1, 0), 9);
    }

    private static void aboveRoomAlone() {
        WalkPasses x = Sheet.with(0, 2, 0, 1, 0, 1);
        x.room(0, 1);
        due("spilled(1, 0): 2 is above 1", x.spilled(1, 0), 1);
        due("spilled(1, 1): 1 is not", x.spilled(1, 1), 0);
        due("spilled(1, 2): 1 and 1 are", x.spilled(1, 2), 1);
    }

    private static void aboveMostRoom() {
        WalkPasses x = Sheet.heap(11, 0, 9);
        x.room(0, 99);
        due("run(1, 1): 11 of 9 are 99", x.run(1, 1), 0);
        x.letter(0, 1);
        due("spilled(1, 11): 100 is above 99", x.spilled(1, 11), 1);
        due("load(1, 0)", x.load(1, 0), 99);
    }

    /** Stacker 1 has no room at all for either, stacker 0 for one: rooms are each stacker's own. */
    private static void unlikeInRoom() {
        WalkPasses x = Sheet.with(0, 5, 0, 5, 1, 5, 1, 5, 2, 5, 2, 5);
        x.room(0, 5);
        x.room(1, 4);
        x.room(2, 10);
        x.code(1, 1);
        x.code(2, 2);
        int[] loads = {5, 0, 10};
        for (int s = 0; s < 3; s++) due("load(1, " + s + ")", x.load(1, s), loads[s]);
        due("run(1, 1)", x.run(1, 1), 3);
    }

    private static void spilledTakesNoPart() {
        WalkPasses x = Sheet.rooms(Sheet.with(0, 9, 1, 9), 9);
        x.code(1, 3);
        due("spilled(1, 1): stacker 0 is full", x.spilled(1, 1), 1);
        due("spilled(2, 1)", x.spilled(2, 1), 1);
        due("load(2, 1): it does not come to the second pass", x.load(2, 1), 0);
        due("run(2, 3)", x.run(2, 3), 0);
        due("run(2, 0)", x.run(2, 0), 1);
        due("out(2, 1)", x.out(2, 1), WalkPasses.NONE);
    }

    private static void sweptOneAfterTheOther() {
        WalkPasses x = Sheet.with(0, 1, 1, 1, 2, 1, 0, 1, 1, 1, 2, 1);
        x.stackers(4);
        x.code(0, 3);
        x.code(1, 2);
        x.code(2, 0);
        int[] order = {2, 5, 1, 4, 0, 3};
        for (int i = 0; i < 6; i++) due("out(1, " + i + "), stacker 1 being empty", x.out(1, i), order[i]);
    }

    private static void sweptAreEmpty() {
        WalkPasses x = Sheet.rooms(Sheet.with(0, 5, 1, 5, 2, 5), 5);
        x.code(0, 0);
        x.code(1, 13);
        x.code(2, 26);
        for (int k = 1; k <= 3; k++) {
            due("run(" + k + ", 1): all is full at each pass", x.run(k, 1), 0);
            for (int s = 0; s < 3; s++) due("load(" + k + ", " + s + ")", x.load(k, s), 5);
        }
    }

    private static void oneToThreePasses() {
        WalkPasses x = Sheet.with(0, 1);
        for (int k : Sheet.outside(1, 3)) {
            due("run(" + k + ", 0)", x.run(k, 0), WalkPasses.OUTSIDE);
            due("out(" + k + ", 0)", x.out(k, 0), WalkPasses.OUTSIDE);
            due("spilled(" + k + ", 0)", x.spilled(k, 0), WalkPasses.OUTSIDE);
            due("load(" + k + ", 0)", x.load(k, 0), WalkPasses.OUTSIDE);
        }
        for (int k = 1; k <= 3; k++) due("run(" + k + ", 0)", x.run(k, 0), 1);
    }

    /** The first of two has the room at the first pass; at the second the one that was swept first has it. */
    private static void orderOfComing() {
        WalkPasses x = Sheet.rooms(Sheet.with(4, 9, 4, 9), 9);
        due("spilled(1, 0)", x.spilled(1, 0), 0);
        due("spilled(1, 1)", x.spilled(1, 1), 1);
        x = Sheet.rooms(Sheet.with(4, 9, 2, 9), 9);
        x.code(4, 1);
        due("spilled(1, 0)", x.spilled(1, 0), 0);
        due("spilled(2, 0): swept behind letter 1", x.spilled(2, 0), 2);
        due("spilled(2, 1)", x.spilled(2, 1), 0);
    }

    private static void nothingIsOut() {
        WalkPasses x = Sheet.rooms(Sheet.with(0, 2, 1, 2), 1);
        for (int k = 1; k <= 3; k++) {
            due("run(" + k + ", 0)", x.run(k, 0), 0);
            due("run(" + k + ", 2)", x.run(k, 2), 0);
            due("out(" + k + ", 0)", x.out(k, 0), WalkPasses.NONE);
        }
    }

    // ---- Terms 2

    private static void wrongPairs() {
        WalkPasses x = new WalkPasses();
        due("run(1, 2) of none", x.run(1, 2), 0);
        x.room(0, 99);
        x.letter(9, 1);
        due("run(1, 2) of one", x.run(1, 2), 0);
        x.letter(9, 1);
        due("run(1, 2) of two at one point", x.run(1, 2), 0);
        x.letter(0, 1);
        due("run(1, 2): both are ahead of letter 2", x.run(1, 2), 2);
        x.misread(1, 1);
        due("run(1, 2): what is spilled is not out", x.run(1, 2), 1);
        x.change(0, 9);
        due("run(1, 2) by another walk", x.run(1, 2), 0);
    }

    private static void mostWrongPairs() {
        WalkPasses x = new WalkPasses();
        x.room(0, 99);
        for (int l = 0; l < 24; l++) x.letter(9 - (l * 10) / 24, 1);
        // four points have 3 letters, six have 2: 276 pairs in all, less 4 times 3 and 6 times 1 at one point
        due("run(1, 2)", x.run(1, 2), 258);
    }

    private static void equalCodesDoNotRise() {
        WalkPasses x = new WalkPasses();
        due("rise() of no point", x.rise(), 1);
        x.letter(3, 1);
        x.letter(3, 1);
        due("rise() of one point", x.rise(), 1);
        x.letter(4, 1);
        due("rise() of equal codes", x.rise(), 0);
        x.code(4, 1);
        due("rise()", x.rise(), 1);
        x.code(3, 2);
        due("rise() of falling codes", x.rise(), 0);
    }

    private static void anyTwoPointsRise() {
        WalkPasses x = Sheet.with(0, 1, 4, 1, 9, 1);
        x.code(0, 1);
        x.code(4, 63);
        x.code(9, 62);
        due("rise(): the last two fall", x.rise(), 0);
        x.code(4, 1);
        due("rise(): the first two are equal", x.rise(), 0);
        x.code(4, 2);
        due("rise(): points without letters have no part", x.rise(), 1);
        x.letter(5, 1);
        x.misread(3, 1);
        due("rise(): a misread one has part", x.rise(), 0);
    }

    private static void belowThePowerIsRight() {
        WalkPasses x = Sheet.with(1, 1, 0, 1);
        for (int many = 2; many <= 4; many++) {
            x.stackers(many);
            int power = 1;
            for (int k = 1; k <= 3; k++) {
                power *= many;
                x.code(1, power - 1);
                due("rise()", x.rise(), 1);
                due("run(" + k + ", 2) of code " + (power - 1) + " to the base " + many, x.run(k, 2), 0);
                if (power > 63) continue;
                x.code(1, power);
                due("run(" + k + ", 2) of code " + power + " to the base " + many, x.run(k, 2), 1);
            }
        }
    }

    // ---- Terms 3

    private static void plansAreBelowThePower() {
        int[][] manyPassesPointsPlans = {
            {3, 1, 0, 1}, {3, 1, 1, 3}, {3, 1, 3, 1}, {3, 1, 4, 0}, {2, 1, 2, 1}, {2, 1, 3, 0}, {4, 1, 4, 1}, {4, 1, 5, 0},
            {2, 2, 4, 1}, {2, 2, 5, 0}, {2, 3, 8, 1}, {2, 3, 9, 0}, {3, 2, 9, 1}, {3, 2, 10, 0}, {4, 2, 1, 16}, {4, 2, 8, 12870},
            {4, 2, 10, 8008}};
        for (int[] c : manyPassesPointsPlans) {
            WalkPasses x = Sheet.row(c[0], c[2], 9);
            due("best(" + c[1] + ", 2) of " + c[2] + " points on " + c[0] + " stackers", x.best(c[1], 2), c[3]);
            Sheet.allMisread(x);
            due("best(" + c[1] + ", 2) of " + c[2] + " misread ones on " + c[0] + " stackers", x.best(c[1], 2), c[3]);
        }
    }

    private static void sixteenAtMost() {
        int[][] manyAndMostPasses = {{2, 3}, {3, 2}, {4, 2}};
        for (int[] c : manyAndMostPasses) {
            WalkPasses x = Sheet.row(c[0], 1, 1);
            for (int k = 1; k <= 3; k++) {
                boolean may = k <= c[1];
                due("best(" + k + ", 0) of " + c[0], x.best(k, 0), may ? 0 : WalkPasses.NO);
                due("take(" + k + ") of " + c[0], x.take(k), may ? 0 : WalkPasses.NO);
                due("needs(" + k + ") of " + c[0], x.needs(k), may ? 1 : WalkPasses.NO);
            }
        }
    }

    private static void costOfMisreadOnes() {
        WalkPasses x = Sheet.allMisread(Sheet.heap(24, 0, 9));
        due("best(1, 0): all 24 are spilled", x.best(1, 0), 24);
        due("best(2, 1): by every plan", x.best(2, 1), 9);
        x = Sheet.rooms(Sheet.heap(23, 0, 2), 1);
        x.letter(1, 2);
        due("best(1, 0): none goes in", x.best(1, 0), 24);
        due("best(1, 10)", x.best(1, 10), 0);
        due("best(1, 11)", x.best(1, 11), 1);
    }

    /** One letter fills a stacker, so that codes must differ in each figure: 00 and 11, or 01 and 10. */
    private static void lesserCodeAtTheFirstPoint() {
        WalkPasses x = Sheet.rooms(Sheet.row(2, 2, 5), 5);
        due("best(2, 1)", x.best(2, 1), 2);
        due("best(2, 10)", x.best(2, 10), 0);
        due("best(2, 11)", x.best(2, 11), 3);
        x.change(0, 1);
        due("best(2, 11): the first by the walk", x.best(2, 11), 0);
        due("best(2, 10): the second by the walk", x.best(2, 10), 3);
    }

    private static void leastCostAheadOfLesserCode() {
        WalkPasses x = Sheet.rooms(Sheet.row(3, 2, 5), 5);
        x.room(0, 4);
        due("best(1, 0)", x.best(1, 0), 0);
        due("best(1, 1)", x.best(1, 1), 1);
        due("best(1, 10)", x.best(1, 10), 1);
        due("best(1, 11)", x.best(1, 11), 2);
    }

    private static void constants() {
        due("UNKNOWN", WalkPasses.UNKNOWN, -1);
        due("OUTSIDE", WalkPasses.OUTSIDE, -2);
        due("STATE", WalkPasses.STATE, -3);
        due("FULL", WalkPasses.FULL, -4);
        due("NO", WalkPasses.NO, -5);
        due("NONE", WalkPasses.NONE, -6);
    }

    private static void refusals() {
        SHEET.sentence("An object is used for at most 512 calls after it has been made", BoundaryTermsTest::fiveHundredAndTwelveCalls);
        SHEET.sentence("Calls that are refused answer the first that fits, in the order in which they are told with the call",
            BoundaryTermsTest::firstThatFits);
        SHEET.sentence("UNKNOWN -1 (no such LETTER, POINT, STACKER)", BoundaryTermsTest::unknown);
        SHEET.sentence("OUTSIDE -2 (another number is not as told)", BoundaryTermsTest::outsideIsAnotherNumber);
        SHEET.sentence("NONE -6 is answered only where no refusal fits.", BoundaryTermsTest::noneOnlyWithoutRefusal);
        SHEET.sentence("What is refused changes nothing.", BoundaryTermsTest::refusedChangesNothing);
        SHEET.sentence("All that is told is as things are when it is asked.", BoundaryTermsTest::asThingsAre);
        SHEET.sentence("What refused calls answer; NONE: there is none.", BoundaryTermsTest::constants);
    }

    private static void termsOfLetters() {
        SHEET.sentence("POINTS are 0 to 9.", BoundaryTermsTest::points);
        SHEET.sentence("THE WALK is an order of all POINTS", BoundaryTermsTest::walkIsOfAllPoints);
        SHEET.sentence("(at first 0, 1, .. 9)", BoundaryTermsTest::walkAtFirst);
        SHEET.sentence("LETTERS, up to 24, are numbered from 0 on as they are told", BoundaryTermsTest::upTo24Letters);
        SHEET.sentence("each with a POINT and a THICK, 1 to 9", BoundaryTermsTest::thick);
        SHEET.sentence("some are MISREAD (none is, as it is told)", BoundaryTermsTest::noneIsMisreadAsTold);
        SHEET.sentence("STACKERS are 0 to MANY less 1", BoundaryTermsTest::stackersAreBelowMany);
        SHEET.sentence("MANY being 2 to 4 (3 at first)", BoundaryTermsTest::many);
        SHEET.sentence("each has a ROOM, 1 to 99 (20 at first", BoundaryTermsTest::roomBounds);
        SHEET.sentence("STACKERS that there are not now keep theirs", BoundaryTermsTest::roomsAreKept);
        SHEET.sentence("Each POINT has a CODE, 0 to 63 (at first 0).", BoundaryTermsTest::codes);
    }

    private static void termsOfPasses() {
        SHEET.sentence("One that is MISREAD is SPILLED (at the first PASS it comes to).", BoundaryTermsTest::misreadIsSpilledAtFirst);
        SHEET.sentence("the CODE being written to the base MANY, the last figure being the first", BoundaryTermsTest::lastFigureIsFirst);
        SHEET.sentence("if the THICKS of those that are in it already and its own, added, are above its ROOM, it is SPILLED",
            () -> {
                aboveRoomIsSpilled();
                aboveRoomAlone();
                aboveMostRoom();
            });
        SHEET.sentence("stackers are unlike in room, what does not go in is spilled", BoundaryTermsTest::unlikeInRoom);
        SHEET.sentence("What is SPILLED takes no part any more.", BoundaryTermsTest::spilledTakesNoPart);
        SHEET.sentence("the LETTERS of STACKER 0, in the order in which they came, then those of STACKER 1, and so on",
            BoundaryTermsTest::sweptOneAfterTheOther);
        SHEET.sentence("they are empty then", BoundaryTermsTest::sweptAreEmpty);
        SHEET.sentence("A RUN of k PASSES, k being 1 to 3", BoundaryTermsTest::oneToThreePasses);
        SHEET.sentence("all LETTERS, by rising numbers, come to the first PASS; what is swept comes to the next one",
            BoundaryTermsTest::orderOfComing);
        SHEET.sentence("OUT of it: what is swept behind the last PASS", BoundaryTermsTest::nothingIsOut);
    }

    private static void termsOfPlans() {
        SHEET.sentence("how many pairs of LETTERS of OUT there are of which the one that is behind has a POINT that is ahead in THE WALK",
            () -> {
                wrongPairs();
                mostWrongPairs();
            });
        SHEET.sentence("the one that is ahead in THE WALK has the lesser CODE", BoundaryTermsTest::equalCodesDoNotRise);
        SHEET.sentence("if of any two POINTS that LETTERS have (MISREAD ones, too)", BoundaryTermsTest::anyTwoPointsRise);
        SHEET.sentence("(By CODES that RISE and are all below MANY to the power of k, a RUN of k PASSES is RIGHT.)",
            BoundaryTermsTest::belowThePowerIsRight);
        SHEET.sentence("for the POINTS that LETTERS have (MISREAD ones, too) any CODES that RISE and are all below MANY to the power of k",
            BoundaryTermsTest::plansAreBelowThePower);
        SHEET.sentence("(They are asked for only if that is 16 at most.)", BoundaryTermsTest::sixteenAtMost);
        SHEET.sentence("how many LETTERS are SPILLED by a RUN of k PASSES with these CODES", BoundaryTermsTest::costOfMisreadOnes);
        SHEET.sentence("the PLAN of the least COST", BoundaryTermsTest::leastCostAheadOfLesserCode);
        SHEET.sentence("of such the one that has, at the first POINT in THE WALK at which they differ, the lesser CODE",
            BoundaryTermsTest::lesserCodeAtTheFirstPoint);
    }

    public static void main(String[] args) {
        refusals();
        termsOfLetters();
        termsOfPasses();
        termsOfPlans();
        SHEET.end();
    }
}
