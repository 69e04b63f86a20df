/** Pages drawn as text, # for ink: made on a desk, and read back from it. */
final class Desk {
    private Desk() {
    }

    /** A desk with one page of these rows, the first sign at x 0; no change to take back. */
    static StraightPages of(String... rows) {
        StraightPages x = new StraightPages();
        add(x, rows);
        return x;
    }

    /** A desk with one page of one size, all ink or none; no change to take back. */
    static StraightPages plain(int w, int h, boolean ink) {
        StraightPages x = new StraightPages();
        x.page(w, h);
        x.lay(0, 0, 3, h, ink ? -1L : 0L, 0L);
        return x;
    }

    static int add(StraightPages x, String... rows) {
        int page = x.page(rows[0].length(), rows.length);
        for (int y = 0; y < rows.length; y++) {
            x.lay(page, y, 3, 1, bits(rows[y]), 0L);
        }
        return page;
    }

    static long bits(String row) {
        long bits = 0L;
        for (int i = 0; i < row.length(); i++) {
            if (row.charAt(i) == '#') {
                bits |= 1L << i;
            }
        }
        return bits;
    }

    static String picture(StraightPages x, int page) {
        StringBuilder text = new StringBuilder();
        int w = x.of(page, 0);
        int h = x.of(page, 1);
        for (int j = 0; j < h; j++) {
            long row = x.row(page, j);
            for (int i = 0; i < w; i++) {
                text.append((row >>> i & 1L) == 1L ? '#' : '.');
            }
            // ink from w on would not be seen otherwise
            text.append(w < 64 && row >>> w != 0L ? "!/" : "/");
        }
        return text.toString();
    }

    /** All that can be asked of a desk, but for what its changes hold. */
    static String state(StraightPages x) {
        StringBuilder text = new StringBuilder();
        for (int page = 0; page < x.count(0); page++) {
            text.append(picture(x, page)).append(' ');
        }
        text.append("changes ").append(x.count(1)).append(" list");
        for (int i = 0; i < x.count(2); i++) {
            text.append(' ').append(x.listed(i, 0)).append(',').append(x.listed(i, 1));
        }
        text.append(" row");
        for (int i = 0; i < x.count(3); i++) {
            text.append(' ').append(x.told(i));
        }
        return text.toString();
    }

    /** Three pages, ten changes of all of them behind two that are too old, a list and a row. */
    static StraightPages busy() {
        StraightPages x = of(
            "###.......",
            "###..#....",
            "..........",
            "....##...#",
            "..........",
            ".....#....");
        add(x,
            "#.#..",
            ".....",
            "..#..",
            "##...");
        x.page(3, 2);
        x.set(0, 9, 0, true);
        x.line(1, 1, 4L);
        x.upright(1, 5);
        x.across(0, 3);
        x.set(2, 1, 1, true);
        x.bend(0);
        x.turn(2, 2, 2);
        x.cut(1, 1);
        x.shadow(1, 90);
        x.line(0, 2, 7L);
        x.set(1, 0, 0, true);
        x.take(0, 2, 1);
        x.spans(0, 0, 1);
        return x;
    }
}
