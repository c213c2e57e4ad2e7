/** What the tests of boundary cases write their findings on: the sentence of the document stands with each. */
final class Sheet {
    static final int LEAST = Integer.MIN_VALUE, MOST = Integer.MAX_VALUE;

    private int sentences = 0;
    private int wrong = 0;
    private String words = "";

    /** Runs the test of one sentence; a test that throws is a test that fails. */
    void sentence(String words, Runnable test) {
        sentences++;
        this.words = words;
        try {
            test.run();
        } catch (RuntimeException e) {
            tell("threw " + e);
        }
    }

    void due(String call, int got, int want) {
        if (got != want) tell(call + " answered " + got + ", due is " + want);
    }

    void unchanged(WalkPasses x, String before, String call) {
        String now = all(x);
        if (!now.equals(before)) tell(call + " changed something: " + before + " is now " + now);
    }

    private void tell(String fault) {
        wrong++;
        System.out.println("'" + words + "': " + fault);
    }

    void end() {
        System.out.println(sentences + " sentences, " + wrong + " answers are not as due");
        if (wrong != 0) System.exit(1);
    }

    /** All that an object holds, but what is in its images, by at most 140 calls: an object is used for 512 only. */
    static String all(WalkPasses x) {
        return x.count(6) + " / " + allButImages(x);
    }

    static String allButImages(WalkPasses x) {
        StringBuilder text = new StringBuilder("many " + x.count(3) + " codes");
        for (int p = 0; p < 10; p++) text.append(' ').append(x.count(10 + p));
        text.append(" walk");
        for (int i = 0; i < 10; i++) text.append(' ').append(x.walk(i));
        text.append(" places");
        for (int p = 0; p < 10; p++) text.append(' ').append(x.change(p, p));
        text.append(" letters");
        for (int l = 0; l < x.count(0); l++) text.append(' ').append(x.of(l, 0)).append(x.of(l, 1)).append(x.of(l, 2));
        return text.append(" rooms").append(rooms(x)).toString();
    }

    /** Those of stackers that there are not now, too: they can be asked for only while there are four. */
    private static String rooms(WalkPasses x) {
        int many = x.stackers(4);
        StringBuilder text = new StringBuilder();
        for (int s = 0; s < 4; s++) {
            int room = x.room(s, 1);
            x.room(s, room);
            text.append(' ').append(room);
        }
        x.stackers(many);
        return text.toString();
    }

    /** Numbers that are not from .. to: those next to it, the ends of int, and such as wrap into it if cut to fewer bits. */
    static int[] outside(int from, int to) {
        return new int[] {from - 1, to + 1, LEAST, LEAST + from, LEAST + to, MOST, MOST - to,
            from - 256, to + 256, from + 65536, to - 65536, -to - 1};
    }

    /** Letters given as point and thick, one after the other. */
    static WalkPasses with(int... pointsAndThicks) {
        WalkPasses x = new WalkPasses();
        for (int i = 0; i < pointsAndThicks.length; i += 2) x.letter(pointsAndThicks[i], pointsAndThicks[i + 1]);
        return x;
    }

    /** So many letters, all of them at one point. */
    static WalkPasses heap(int letters, int point, int thick) {
        WalkPasses x = new WalkPasses();
        for (int l = 0; l < letters; l++) x.letter(point, thick);
        return x;
    }

    /** A letter at each of the first points; so many stackers. */
    static WalkPasses row(int many, int points, int thick) {
        WalkPasses x = new WalkPasses();
        x.stackers(many);
        for (int p = 0; p < points; p++) x.letter(p, thick);
        return x;
    }

    /** The same room for each stacker that there is. */
    static WalkPasses rooms(WalkPasses x, int v) {
        for (int s = 0; s < x.count(3); s++) x.room(s, v);
        return x;
    }

    static WalkPasses allMisread(WalkPasses x) {
        for (int l = 0; l < x.count(0); l++) x.misread(l, 1);
        return x;
    }
}
