import java.util.function.Supplier;

/** Tests of the document's sentences, each under the words that it holds the class to. */
abstract class Edges {
    static final int NONE = StraightPages.NONE;
    static final int LEAST = Integer.MIN_VALUE;
    static final int MOST = Integer.MAX_VALUE;

    private final Checks checks;
    private final DocText doc;
    private String section = "";
    private String now = "";

    Edges(Checks checks, DocText doc) {
        this.checks = checks;
        this.doc = doc;
    }

    /** A call of the face; a boolean counts 1 or 0. */
    interface Call {
        long on(StraightPages x);
    }

    abstract void all();

    void promise(int number) {
        section = "Promise " + number;
    }

    void part(String name) {
        section = name;
    }

    /** The sentence stands in the document, and these tests hold it. */
    void edge(String sentence, Runnable... tests) {
        now = section + ", '" + sentence + "': ";
        checks.hold(now + "the document does not say so", doc.says(section, sentence));
        checks.hold(now + "no test", tests.length > 0);
        doc.strike(section, sentence);
        for (Runnable test : tests) {
            try {
                test.run();
            } catch (RuntimeException e) {
                checks.hold(now + "threw " + e, false);
            }
        }
    }

    void due(String what, long want, long got) {
        checks.due(now + what, want, got);
    }

    void due(String what, boolean want, boolean got) {
        checks.due(now + what, want, got);
    }

    void hold(String what, boolean holds) {
        checks.hold(now + what, holds);
    }

    void looks(String what, StraightPages x, int page, String... rows) {
        String want = String.join("/", rows) + "/";
        String got = Desk.picture(x, page);
        hold(what + ": page " + page + " is " + got + ", due is " + want, got.equals(want));
    }

    void throwsNoSuchElement(String what, Checks.Call call) {
        checks.throwsNoSuchElement(now + what, call);
    }

    /** The list is these points: x, y, x, y, .. */
    void lists(String what, StraightPages x, int... points) {
        due(what + ": points", points.length / 2, x.count(2));
        for (int i = 0; i < Math.min(points.length / 2, x.count(2)); i++) {
            due(what + ": x of " + i, points[2 * i], x.listed(i, 0));
            due(what + ": y of " + i, points[2 * i + 1], x.listed(i, 1));
        }
    }

    void tells(String what, StraightPages x, int... numbers) {
        due(what + ": numbers", numbers.length, x.count(3));
        for (int i = 0; i < Math.min(numbers.length, x.count(3)); i++) {
            due(what + ": number " + i, numbers[i], x.told(i));
        }
    }

    static long one(boolean answer) {
        return answer ? 1L : 0L;
    }

    void refuses(String what, Call call) {
        leaves(what, NONE, Desk::busy, call);
    }

    void refusesByFalse(String what, Call call) {
        leaves(what, 0L, Desk::busy, call);
    }

    /** The call answers so, and a twin that was not asked is the same, also as all is taken back. */
    void leaves(String what, long want, Supplier<StraightPages> made, Call call) {
        StraightPages asked = made.get();
        StraightPages twin = made.get();
        due(what, want, call.on(asked));
        alike(what + ", then", asked, twin);
        for (int i = 1; i <= 11; i++) {
            due(what + ", then back " + i, twin.back(), asked.back());
            if (i % 5 == 0) {
                alike(what + ", then " + i + " times back", asked, twin);
            }
        }
    }

    private void alike(String what, StraightPages asked, StraightPages twin) {
        String got = Desk.state(asked);
        String want = Desk.state(twin);
        hold(what + " is " + got + ", due is " + want, got.equals(want));
    }
}
