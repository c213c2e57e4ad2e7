import java.util.Arrays;

/** Letters put in the order of a walk by passes over few stackers. */
public final class WalkPasses {
    public static final int UNKNOWN = -1, OUTSIDE = -2, STATE = -3, FULL = -4, NO = -5, NONE = -6;

    private static final int POINTS = 10;
    private static final int MOST_LETTERS = 24;
    private static final int MOST_THICK = 9;
    private static final int FEWEST_STACKERS = 2;
    private static final int STACKERS_AT_FIRST = 3;
    private static final int MOST_STACKERS = 4;
    private static final int ROOM_AT_FIRST = 20;
    private static final int MOST_ROOM = 99;
    private static final int MOST_CODE = 63;
    private static final int MOST_PASSES = 3;
    private static final int MOST_PLAN_CODES = 16;
    /** 16 over 8: no choice of codes below 16 can be made in more ways. */
    private static final int MOST_PLANS = 12870;
    private static final int IMAGES = 2;
    /** Questions from here on ask for the code of a point. */
    private static final int ASK_CODE = 10;

    private final Desk desk = new Desk();
    private final Desk[] images = new Desk[IMAGES];
    private int keptImages;
    private final Passes passes = new Passes();
    private final Best bestPlan = new Best();
    private final Weights weights = new Weights();

    public WalkPasses() {
        for (int k = 0; k < IMAGES; k++) {
            images[k] = new Desk();
        }
    }

    // ---- 1 letters, stackers, codes

    public int letter(int point, int thick) {
        if (!isPoint(point)) {
            return UNKNOWN;
        }
        if (!isWithin(thick, 1, MOST_THICK)) {
            return OUTSIDE;
        }
        if (desk.letters >= MOST_LETTERS) {
            return FULL;
        }
        return desk.add(point, thick);
    }

    public int misread(int letter, int is) {
        if (!isLetter(letter)) {
            return UNKNOWN;
        }
        if (!isWithin(is, 0, 1)) {
            return OUTSIDE;
        }
        desk.mark(letter, is);
        return desk.countMisread();
    }

    public int drop(int letter) {
        if (!isLetter(letter)) {
            return UNKNOWN;
        }
        desk.remove(letter);
        return desk.letters;
    }

    public int change(int one, int other) {
        if (!isPoint(one) || !isPoint(other)) {
            return UNKNOWN;
        }
        desk.swap(one, other);
        return desk.places[one];
    }

    public int walk(int i) {
        if (!isWithin(i, 0, POINTS - 1)) {
            return OUTSIDE;
        }
        return desk.order[i];
    }

    public int stackers(int v) {
        if (!isWithin(v, FEWEST_STACKERS, MOST_STACKERS)) {
            return OUTSIDE;
        }
        int was = desk.many;
        desk.setMany(v);
        return was;
    }

    public int room(int stacker, int v) {
        if (!isStacker(stacker)) {
            return UNKNOWN;
        }
        if (!isWithin(v, 1, MOST_ROOM)) {
            return OUTSIDE;
        }
        int was = desk.rooms[stacker];
        desk.setRoom(stacker, v);
        return was;
    }

    public int code(int point, int v) {
        if (!isPoint(point)) {
            return UNKNOWN;
        }
        if (!isWithin(v, 0, MOST_CODE)) {
            return OUTSIDE;
        }
        int was = desk.codes[point];
        desk.codes[point] = v;
        return was;
    }

    public int dense() {
        return desk.codeDensely();
    }

    public int of(int letter, int what) {
        if (!isLetter(letter)) {
            return UNKNOWN;
        }
        switch (what) {
            case 0:
                return desk.points[letter];
            case 1:
                return desk.thicks[letter];
            case 2:
                return desk.misreads[letter];
            default:
                return OUTSIDE;
        }
    }

    // ---- 2 runs

    public int run(int k, int what) {
        if (!isPasses(k) || !isWithin(what, 0, 3)) {
            return OUTSIDE;
        }
        passes.perform(desk, desk.codes, k);
        switch (what) {
            case 0:
                return passes.coming;
            case 1:
                return desk.letters - passes.coming;
            case 2:
                return passes.countWrong(desk);
            default:
                return passes.countSpilledAt(desk, k);
        }
    }

    public int out(int k, int i) {
        if (!isPasses(k)) {
            return OUTSIDE;
        }
        passes.perform(desk, desk.codes, k);
        return isWithin(i, 0, passes.coming - 1) ? passes.order[i] : NONE;
    }

    public int spilled(int k, int letter) {
        if (!isPasses(k)) {
            return OUTSIDE;
        }
        if (!isLetter(letter)) {
            return UNKNOWN;
        }
        passes.perform(desk, desk.codes, k);
        return passes.spilledAt[letter];
    }

    public int load(int k, int stacker) {
        if (!isPasses(k)) {
            return OUTSIDE;
        }
        if (!isStacker(stacker)) {
            return UNKNOWN;
        }
        passes.perform(desk, desk.codes, k);
        return passes.loads[stacker];
    }

    public int rise() {
        return desk.codesRise() ? 1 : 0;
    }

    // ---- 3 plans

    public int best(int k, int what) {
        if (!isPasses(k) || !isWithin(what, 0, 2) && !asksCode(what)) {
            return OUTSIDE;
        }
        if (!hasPlanCodes(k)) {
            return NO;
        }
        bestPlan.find(desk, k);
        if (what == 2) {
            return bestPlan.plans;
        }
        if (bestPlan.plans == 0) {
            return NONE;
        }
        if (what == 0) {
            return bestPlan.least;
        }
        if (what == 1) {
            return bestPlan.ties;
        }
        int point = what - ASK_CODE;
        return desk.hasLetterAt(point) ? bestPlan.codes[point] : NONE;
    }

    public int take(int k) {
        if (!isPasses(k)) {
            return OUTSIDE;
        }
        if (!hasPlanCodes(k)) {
            return NO;
        }
        bestPlan.find(desk, k);
        if (bestPlan.plans == 0) {
            return NO;
        }
        desk.takeCodes(bestPlan.codes);
        return bestPlan.least;
    }

    public int fewest() {
        for (int k = 1; k <= MOST_PASSES; k++) {
            if (hasPlanCodes(k) && weights.somePlanFits(desk, k)) {
                return k;
            }
        }
        return NONE;
    }

    public int needs(int k) {
        if (!isPasses(k)) {
            return OUTSIDE;
        }
        if (!hasPlanCodes(k)) {
            return NO;
        }
        int least = weights.leastRoom(desk, k);
        return least <= MOST_ROOM ? least : NONE;
    }

    // ---- 4 images

    public int image(int k) {
        if (!isImage(k)) {
            return OUTSIDE;
        }
        images[k].copyFrom(desk);
        keptImages |= 1 << k;
        return 1;
    }

    public int restore(int k) {
        if (!isImage(k)) {
            return OUTSIDE;
        }
        if ((keptImages >> k & 1) == 0) {
            return STATE;
        }
        desk.copyFrom(images[k]);
        return 1;
    }

    public int count(int what) {
        if (asksCode(what)) {
            return desk.codes[what - ASK_CODE];
        }
        switch (what) {
            case 0:
                return desk.letters;
            case 1:
                return desk.countMisread();
            case 2:
                return desk.countPoints();
            case 3:
                return desk.many;
            case 4:
                return desk.addThicks();
            case 5:
                return desk.addRooms();
            case 6:
                return keptImages;
            default:
                return OUTSIDE;
        }
    }

    private static boolean isWithin(int v, int least, int most) {
        return v >= least && v <= most;
    }

    private static boolean isPoint(int point) {
        return isWithin(point, 0, POINTS - 1);
    }

    private boolean isLetter(int letter) {
        return isWithin(letter, 0, desk.letters - 1);
    }

    private boolean isStacker(int stacker) {
        return isWithin(stacker, 0, desk.many - 1);
    }

    private static boolean isPasses(int k) {
        return isWithin(k, 1, MOST_PASSES);
    }

    private static boolean isImage(int k) {
        return isWithin(k, 0, IMAGES - 1);
    }

    private static boolean asksCode(int what) {
        return isWithin(what, ASK_CODE, ASK_CODE + POINTS - 1);
    }

    /** Whether plans of k passes may be asked for. */
    private boolean hasPlanCodes(int k) {
        return power(desk.many, k) <= MOST_PLAN_CODES;
    }

    private static int power(int base, int exponent) {
        int product = 1;
        for (int i = 0; i < exponent; i++) {
            product *= base;
        }
        return product;
    }

    /** The figure of a code, written to the base many, that stands for the given power of many. */
    private static int figure(int code, int unit, int many) {
        if (unit < 1 || many < 1) {
            return 0;
        }
        return code / unit % many;
    }

    /** All that an image keeps: letters, the walk, stackers and codes. */
    private static final class Desk {
        private int letters;
        private final int[] points = new int[MOST_LETTERS];
        private final int[] thicks = new int[MOST_LETTERS];
        private final int[] misreads = new int[MOST_LETTERS];
        private final int[] order = new int[POINTS];
        private final int[] places = new int[POINTS];
        private int many = STACKERS_AT_FIRST;
        private final int[] rooms = new int[MOST_STACKERS];
        private final int[] codes = new int[POINTS];
        /** Tells when a plan that was found may no longer be the best; codes have no part in that. */
        private int version;

        Desk() {
            for (int p = 0; p < POINTS; p++) {
                order[p] = p;
                places[p] = p;
            }
            Arrays.fill(rooms, ROOM_AT_FIRST);
        }

        int add(int point, int thick) {
            int number = letters;
            points[number] = point;
            thicks[number] = thick;
            misreads[number] = 0;
            letters++;
            version++;
            return number;
        }

        void mark(int letter, int is) {
            misreads[letter] = is;
            version++;
        }

        void remove(int letter) {
            letters--;
            for (int i = letter; i < letters; i++) {
                points[i] = points[i + 1];
                thicks[i] = thicks[i + 1];
                misreads[i] = misreads[i + 1];
            }
            version++;
        }

        void swap(int one, int other) {
            int place = places[one];
            places[one] = places[other];
            places[other] = place;
            order[places[one]] = one;
            order[places[other]] = other;
            version++;
        }

        void setMany(int v) {
            many = v;
            version++;
        }

        void setRoom(int stacker, int v) {
            rooms[stacker] = v;
            version++;
        }

        int codeDensely() {
            int next = 0;
            for (int place = 0; place < POINTS; place++) {
                int point = order[place];
                if (hasLetterAt(point)) {
                    codes[point] = next;
                    next++;
                }
            }
            return next;
        }

        void takeCodes(int[] plan) {
            for (int p = 0; p < POINTS; p++) {
                if (hasLetterAt(p)) {
                    codes[p] = plan[p];
                }
            }
        }

        boolean codesRise() {
            int last = -1;
            for (int place = 0; place < POINTS; place++) {
                int point = order[place];
                if (hasLetterAt(point)) {
                    if (codes[point] <= last) {
                        return false;
                    }
                    last = codes[point];
                }
            }
            return true;
        }

        boolean hasLetterAt(int point) {
            for (int i = 0; i < letters; i++) {
                if (points[i] == point) {
                    return true;
                }
            }
            return false;
        }

        int countPoints() {
            int sum = 0;
            for (int p = 0; p < POINTS; p++) {
                if (hasLetterAt(p)) {
                    sum++;
                }
            }
            return sum;
        }

        int countMisread() {
            return addFirst(misreads, letters);
        }

        int addThicks() {
            return addFirst(thicks, letters);
        }

        int addRooms() {
            return addFirst(rooms, many);
        }

        private static int addFirst(int[] row, int length) {
            int sum = 0;
            for (int i = 0; i < length; i++) {
                sum += row[i];
            }
            return sum;
        }

        void copyFrom(Desk other) {
            letters = other.letters;
            copyRow(other.points, points);
            copyRow(other.thicks, thicks);
            copyRow(other.misreads, misreads);
            copyRow(other.order, order);
            copyRow(other.places, places);
            many = other.many;
            copyRow(other.rooms, rooms);
            copyRow(other.codes, codes);
            version++;
        }

        private static void copyRow(int[] from, int[] to) {
            System.arraycopy(from, 0, to, 0, to.length);
        }
    }

    /** A run of passes, letter by letter. */
    private static final class Passes {
        /** What comes to the next pass; behind the last one: what is out. */
        private final int[] order = new int[MOST_LETTERS];
        private int coming;
        private final int[] spilledAt = new int[MOST_LETTERS];
        private final int[] stackerOf = new int[POINTS];
        private final int[][] piles = new int[MOST_STACKERS][MOST_LETTERS];
        private final int[] heights = new int[MOST_STACKERS];
        private final int[] loads = new int[MOST_STACKERS];

        void perform(Desk desk, int[] codes, int k) {
            countSpilledUpTo(desk, codes, k, MOST_LETTERS);
        }

        /** How many are spilled; further passes are left out once that is more than matters. */
        int countSpilledUpTo(Desk desk, int[] codes, int k, int most) {
            begin(desk);
            int unit = 1;
            for (int j = 1; j <= k && desk.letters - coming <= most; j++) {
                aim(codes, unit, desk.many);
                stack(desk, j);
                sweep(desk.many);
                unit *= desk.many;
            }
            return desk.letters - coming;
        }

        /** What is misread need not come at all: all of it is spilled at the first pass. */
        private void begin(Desk desk) {
            coming = 0;
            for (int letter = 0; letter < desk.letters; letter++) {
                spilledAt[letter] = desk.misreads[letter];
                if (desk.misreads[letter] == 0) {
                    order[coming] = letter;
                    coming++;
                }
            }
        }

        private void aim(int[] codes, int unit, int many) {
            for (int p = 0; p < POINTS; p++) {
                stackerOf[p] = figure(codes[p], unit, many);
            }
        }

        private void stack(Desk desk, int pass) {
            Arrays.fill(heights, 0);
            Arrays.fill(loads, 0);
            for (int i = 0; i < coming; i++) {
                int letter = order[i];
                int stacker = stackerOf[desk.points[letter]];
                int full = loads[stacker] + desk.thicks[letter];
                if (full > desk.rooms[stacker]) {
                    spilledAt[letter] = pass;
                } else {
                    loads[stacker] = full;
                    piles[stacker][heights[stacker]] = letter;
                    heights[stacker]++;
                }
            }
        }

        private void sweep(int many) {
            coming = 0;
            for (int s = 0; s < many; s++) {
                System.arraycopy(piles[s], 0, order, coming, heights[s]);
                coming += heights[s];
            }
        }

        int countSpilledAt(Desk desk, int pass) {
            int sum = 0;
            for (int i = 0; i < desk.letters; i++) {
                if (spilledAt[i] == pass) {
                    sum++;
                }
            }
            return sum;
        }

        int countWrong(Desk desk) {
            int sum = 0;
            for (int behind = 1; behind < coming; behind++) {
                int place = desk.places[desk.points[order[behind]]];
                for (int i = 0; i < behind; i++) {
                    if (place < desk.places[desk.points[order[i]]]) {
                        sum++;
                    }
                }
            }
            return sum;
        }
    }

    /** One plan after the other, the one with the lesser code at the first point that differs ahead. */
    private static final class Plans {
        private final int[] points = new int[POINTS];
        private int size;
        private int below;
        /** By point; those of points without letters mean nothing. */
        private final int[] codes = new int[POINTS];

        /** Goes to the first plan: whether there is one. */
        boolean begin(Desk desk, int k) {
            below = power(desk.many, k);
            size = 0;
            for (int place = 0; place < POINTS; place++) {
                int point = desk.order[place];
                if (desk.hasLetterAt(point)) {
                    points[size] = point;
                    codes[point] = size;
                    size++;
                }
            }
            return size <= below;
        }

        /** Goes to the next plan that differs at one of the first points: whether there is one. */
        boolean advance(int firstPoints) {
            for (int i = Math.min(firstPoints, size) - 1; i >= 0; i--) {
                int pointsFromHere = size - i;
                if (codes[points[i]] < below - pointsFromHere) {
                    raise(i);
                    return true;
                }
            }
            return false;
        }

        private void raise(int from) {
            int code = codes[points[from]];
            for (int i = from; i < size; i++) {
                code++;
                codes[points[i]] = code;
            }
        }
    }

    /** The best plan, kept until it may be another one: to look for it is dear. */
    private static final class Best {
        private final Plans candidates = new Plans();
        private final Passes passes = new Passes();
        private int knownPasses;
        private int knownVersion;
        private int plans;
        private int least;
        private int ties;
        private final int[] codes = new int[POINTS];

        void find(Desk desk, int k) {
            if (knownPasses == k && knownVersion == desk.version) {
                return;
            }
            search(desk, k);
            knownPasses = k;
            knownVersion = desk.version;
        }

        private void search(Desk desk, int k) {
            least = MOST_LETTERS + 1;
            ties = 0;
            boolean more = candidates.begin(desk, k);
            for (plans = 0; plans < MOST_PLANS && more; plans++) {
                compare(passes.countSpilledUpTo(desk, candidates.codes, k, least));
                more = candidates.advance(POINTS);
            }
        }

        /** Of plans of the same cost the first stays: it has the lesser code. */
        private void compare(int cost) {
            if (cost < least) {
                least = cost;
                ties = 0;
                System.arraycopy(candidates.codes, 0, codes, 0, POINTS);
            }
            if (cost == least) {
                ties++;
            }
        }
    }

    /** What lies in the stackers if nothing is spilled: in which order letters come is all one then. */
    private static final class Weights {
        private final Plans candidates = new Plans();
        private final int[] weightOf = new int[POINTS];
        private final int[][] loads = new int[MOST_PASSES][MOST_STACKERS];
        private final int[] limits = new int[MOST_STACKERS];

        boolean somePlanFits(Desk desk, int k) {
            weigh(desk);
            boolean more = candidates.begin(desk, k);
            for (int n = 0; n < MOST_PLANS && more; n++) {
                int fitting = countFitting(desk.rooms, desk.many, k);
                if (fitting == candidates.size) {
                    return true;
                }
                more = candidates.advance(fitting + 1);
            }
            return false;
        }

        /** The least room that will do for every stacker; above the most that may be, if there is none. */
        int leastRoom(Desk desk, int k) {
            weigh(desk);
            int least = MOST_ROOM + 1;
            boolean more = candidates.begin(desk, k);
            for (int n = 0; n < MOST_PLANS + MOST_ROOM && more && least > 1; n++) {
                Arrays.fill(limits, least - 1);
                int fitting = countFitting(limits, desk.many, k);
                if (fitting == candidates.size) {
                    least--;
                } else {
                    more = candidates.advance(fitting + 1);
                }
            }
            return least;
        }

        private void weigh(Desk desk) {
            Arrays.fill(weightOf, 0);
            for (int i = 0; i < desk.letters; i++) {
                if (desk.misreads[i] == 0) {
                    weightOf[desk.points[i]] += desk.thicks[i];
                }
            }
        }

        /** How many points go in ahead of the first that does not: plans that begin like this one need no look. */
        private int countFitting(int[] rooms, int many, int k) {
            empty(k);
            for (int i = 0; i < candidates.size; i++) {
                if (!pointFits(candidates.points[i], rooms, many, k)) {
                    return i;
                }
            }
            return candidates.size;
        }

        private void empty(int k) {
            for (int j = 0; j < k; j++) {
                Arrays.fill(loads[j], 0);
            }
        }

        private boolean pointFits(int point, int[] rooms, int many, int k) {
            int unit = 1;
            for (int j = 0; j < k; j++) {
                int stacker = figure(candidates.codes[point], unit, many);
                loads[j][stacker] += weightOf[point];
                if (loads[j][stacker] > rooms[stacker]) {
                    return false;
                }
                unit *= many;
            }
            return true;
        }
    }
}
