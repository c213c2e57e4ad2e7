import java.util.ArrayList;
import java.util.Arrays;
import java.util.Collections;
import java.util.List;

/** The document's words once more, in their plainest form and without care for speed, to be asked the same as the class. */
final class WalkModel {
    static final int UNKNOWN = -1, OUTSIDE = -2, STATE = -3, FULL = -4, NO = -5, NONE = -6;

    static final class Letter {
        final int point;
        final int thick;
        final boolean misread;

        Letter(int point, int thick, boolean misread) {
            this.point = point;
            this.thick = thick;
            this.misread = misread;
        }
    }

    static final class Things {
        List<Letter> letters = new ArrayList<>();
        List<Integer> walk = new ArrayList<>(List.of(0, 1, 2, 3, 4, 5, 6, 7, 8, 9));
        int many = 3;
        int[] rooms = {20, 20, 20, 20};
        int[] codes = new int[10];

        Things copy() {
            Things t = new Things();
            t.letters = new ArrayList<>(letters);
            t.walk = new ArrayList<>(walk);
            t.many = many;
            t.rooms = rooms.clone();
            t.codes = codes.clone();
            return t;
        }
    }

    static final class Run {
        List<Integer> out = new ArrayList<>();
        int[] spilledAt;
        int[] loads;

        int spilled() {
            return spilledAt.length - out.size();
        }
    }

    private Things now = new Things();
    private final Things[] images = new Things[2];

    private boolean noLetter(int letter) {
        return letter < 0 || letter >= now.letters.size();
    }

    private static boolean noPoint(int point) {
        return point < 0 || point > 9;
    }

    private static boolean noPasses(int k) {
        return k < 1 || k > 3;
    }

    int letter(int point, int thick) {
        if (noPoint(point)) return UNKNOWN;
        if (thick < 1 || thick > 9) return OUTSIDE;
        if (now.letters.size() == 24) return FULL;
        now.letters.add(new Letter(point, thick, false));
        return now.letters.size() - 1;
    }

    int misread(int letter, int is) {
        if (noLetter(letter)) return UNKNOWN;
        if (is != 0 && is != 1) return OUTSIDE;
        Letter old = now.letters.get(letter);
        now.letters.set(letter, new Letter(old.point, old.thick, is == 1));
        return misreads();
    }

    private int misreads() {
        return (int) now.letters.stream().filter(l -> l.misread).count();
    }

    int drop(int letter) {
        if (noLetter(letter)) return UNKNOWN;
        now.letters.remove(letter);
        return now.letters.size();
    }

    int change(int one, int other) {
        if (noPoint(one) || noPoint(other)) return UNKNOWN;
        Collections.swap(now.walk, now.walk.indexOf(one), now.walk.indexOf(other));
        return now.walk.indexOf(one);
    }

    int walk(int i) {
        return i < 0 || i > 9 ? OUTSIDE : now.walk.get(i);
    }

    int stackers(int v) {
        if (v < 2 || v > 4) return OUTSIDE;
        int was = now.many;
        now.many = v;
        return was;
    }

    int room(int stacker, int v) {
        if (stacker < 0 || stacker >= now.many) return UNKNOWN;
        if (v < 1 || v > 99) return OUTSIDE;
        int was = now.rooms[stacker];
        now.rooms[stacker] = v;
        return was;
    }

    int code(int point, int v) {
        if (noPoint(point)) return UNKNOWN;
        if (v < 0 || v > 63) return OUTSIDE;
        int was = now.codes[point];
        now.codes[point] = v;
        return was;
    }

    private List<Integer> pointsInWalk() {
        List<Integer> points = new ArrayList<>(now.walk);
        points.removeIf(p -> now.letters.stream().noneMatch(l -> l.point == p));
        return points;
    }

    int dense() {
        List<Integer> points = pointsInWalk();
        for (int i = 0; i < points.size(); i++) now.codes[points.get(i)] = i;
        return points.size();
    }

    int of(int letter, int what) {
        if (noLetter(letter)) return UNKNOWN;
        Letter l = now.letters.get(letter);
        return what == 0 ? l.point : what == 1 ? l.thick : what == 2 ? (l.misread ? 1 : 0) : OUTSIDE;
    }

    private Run runOf(int k, int[] codes, int[] rooms) {
        Run run = new Run();
        run.spilledAt = new int[now.letters.size()];
        for (int l = 0; l < now.letters.size(); l++) run.out.add(l);
        for (int j = 1; j <= k; j++) {
            List<List<Integer>> stackers = new ArrayList<>();
            for (int s = 0; s < now.many; s++) stackers.add(new ArrayList<>());
            run.loads = new int[now.many];
            for (int number : run.out) {
                Letter l = now.letters.get(number);
                int rest = codes[l.point];
                for (int i = 1; i < j; i++) rest /= now.many;
                int s = rest % now.many;
                if (l.misread || run.loads[s] + l.thick > rooms[s]) {
                    run.spilledAt[number] = j;
                } else {
                    run.loads[s] += l.thick;
                    stackers.get(s).add(number);
                }
            }
            run.out = new ArrayList<>();
            for (List<Integer> stacker : stackers) run.out.addAll(stacker);
        }
        return run;
    }

    private Run runOf(int k) {
        return runOf(k, now.codes, now.rooms);
    }

    int run(int k, int what) {
        if (noPasses(k) || what < 0 || what > 3) return OUTSIDE;
        Run run = runOf(k);
        if (what == 0) return run.out.size();
        if (what == 1) return run.spilled();
        if (what == 3) return (int) Arrays.stream(run.spilledAt).filter(j -> j == k).count();
        int wrong = 0;
        for (int a = 0; a < run.out.size(); a++) {
            for (int b = a + 1; b < run.out.size(); b++) {
                int ahead = now.walk.indexOf(now.letters.get(run.out.get(a)).point);
                int behind = now.walk.indexOf(now.letters.get(run.out.get(b)).point);
                if (behind < ahead) wrong++;
            }
        }
        return wrong;
    }

    int out(int k, int i) {
        if (noPasses(k)) return OUTSIDE;
        List<Integer> out = runOf(k).out;
        return i < 0 || i >= out.size() ? NONE : out.get(i);
    }

    int spilled(int k, int letter) {
        if (noPasses(k)) return OUTSIDE;
        if (noLetter(letter)) return UNKNOWN;
        return runOf(k).spilledAt[letter];
    }

    int load(int k, int stacker) {
        if (noPasses(k)) return OUTSIDE;
        if (stacker < 0 || stacker >= now.many) return UNKNOWN;
        return runOf(k).loads[stacker];
    }

    int rise() {
        List<Integer> points = pointsInWalk();
        for (int a = 0; a < points.size(); a++) {
            for (int b = a + 1; b < points.size(); b++) {
                if (now.codes[points.get(a)] >= now.codes[points.get(b)]) return 0;
            }
        }
        return 1;
    }

    private boolean tooManyCodes(int k) {
        return Math.round(Math.pow(now.many, k)) > 16;
    }

    private List<int[]> plans(int k) {
        List<int[]> all = new ArrayList<>();
        addPlans(all, new int[10], pointsInWalk(), 0, 0, (int) Math.round(Math.pow(now.many, k)));
        return all;
    }

    private static void addPlans(List<int[]> all, int[] plan, List<Integer> points, int i, int from, int below) {
        if (i == points.size()) {
            all.add(plan.clone());
            return;
        }
        for (int code = from; code < below; code++) {
            plan[points.get(i)] = code;
            addPlans(all, plan, points, i + 1, code + 1, below);
        }
    }

    private int[] costs(List<int[]> plans, int k) {
        return plans.stream().mapToInt(p -> runOf(k, p, now.rooms).spilled()).toArray();
    }

    private static int indexOfLeast(int[] costs) {
        int at = 0;
        for (int i = 1; i < costs.length; i++) if (costs[i] < costs[at]) at = i;
        return at;
    }

    int best(int k, int what) {
        boolean known = what >= 0 && what <= 2 || what >= 10 && what <= 19;
        if (noPasses(k) || !known) return OUTSIDE;
        if (tooManyCodes(k)) return NO;
        List<int[]> plans = plans(k);
        if (what == 2) return plans.size();
        if (plans.isEmpty()) return NONE;
        if (what >= 10 && !pointsInWalk().contains(what - 10)) return NONE;
        int[] costs = costs(plans, k);
        int at = indexOfLeast(costs);
        if (what == 0) return costs[at];
        if (what == 1) return (int) Arrays.stream(costs).filter(c -> c == costs[at]).count();
        return plans.get(at)[what - 10];
    }

    int take(int k) {
        if (noPasses(k)) return OUTSIDE;
        if (tooManyCodes(k)) return NO;
        List<int[]> plans = plans(k);
        if (plans.isEmpty()) return NO;
        int[] costs = costs(plans, k);
        int at = indexOfLeast(costs);
        for (int p : pointsInWalk()) now.codes[p] = plans.get(at)[p];
        return costs[at];
    }

    int fewest() {
        for (int k = 1; k <= 3 && !tooManyCodes(k); k++) {
            for (int[] plan : plans(k)) {
                if (runOf(k, plan, now.rooms).spilled() == misreads()) return k;
            }
        }
        return NONE;
    }

    int needs(int k) {
        if (noPasses(k)) return OUTSIDE;
        if (tooManyCodes(k)) return NO;
        int least = 100;
        for (int[] plan : plans(k)) {
            while (least > 1 && enough(least - 1, plan, k)) least--;
        }
        return least == 100 ? NONE : least;
    }

    private boolean enough(int room, int[] plan, int k) {
        int[] rooms = {room, room, room, room};
        return runOf(k, plan, rooms).spilled() == misreads();
    }

    int image(int k) {
        if (k != 0 && k != 1) return OUTSIDE;
        images[k] = now.copy();
        return 1;
    }

    int restore(int k) {
        if (k != 0 && k != 1) return OUTSIDE;
        if (images[k] == null) return STATE;
        now = images[k].copy();
        return 1;
    }

    int count(int what) {
        if (what >= 10 && what <= 19) return now.codes[what - 10];
        switch (what) {
            case 0: return now.letters.size();
            case 1: return misreads();
            case 2: return pointsInWalk().size();
            case 3: return now.many;
            case 4: return now.letters.stream().mapToInt(l -> l.thick).sum();
            case 5: return Arrays.stream(now.rooms, 0, now.many).sum();
            case 6: return (images[0] == null ? 0 : 1) + (images[1] == null ? 0 : 2);
            default: return OUTSIDE;
        }
    }
}
