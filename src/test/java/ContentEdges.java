/** Promises 23 to 28: content. */
final class ContentEdges extends Edges {
    ContentEdges(Checks checks, DocText doc) {
        super(checks, doc);
    }

    @Override
    void all() {
        boxes();
        spans();
        parting();
        takingBack();
    }

    private void boxes() {
        promise(23);
        edge("Of CONTENT, what 0: its first column, 1: row, 2: last column, 3: row.",
            this::boxOfEachCorner, this::boxOfAFullPage);
        edge("NONE: no such PAGE, INK, another what.", this::boxNoSuchPage, this::boxNoInk,
            this::boxAnotherWhat);
        promise(24);
        edge("The PAGE is CONTENT and m (0 .. 20) more on each side (without INK; as it is, so that it can be"
            + " wider than it was): true;",
            this::cutByLeast, this::cutByMost, this::cutWiderThanItWas, this::cutBringsNoInk,
            this::cutOfAllOfIt, this::cutFromTheFarCorner);
        edge("false: no such PAGE, INK, m; wider or higher than 64.",
            this::cutNoSuchPage, this::cutNoInk, this::cutOtherM, this::cutJustWideEnough,
            this::cutTooWide, this::cutTooHigh);
    }

    private void spans() {
        promise(25);
        edge("COLUMNS (what 0) or LINES (1): spans of columns (rows) with INK, joined where fewer than g"
            + " (1 .. 64) without INK are between: the ROW: of each its first and its last: how many.",
            this::spansByLeastG, this::spansByMostG, this::spansBetweenJustG, this::spansOfNoInk,
            this::spansOfAFullPage, this::mostSpans, this::spansInFirstAndLastColumn, this::spansAreNoChange);
        edge("NONE: no such PAGE, g, another what.", this::spansNoSuchPage, this::spansOtherG,
            this::spansAnotherWhat);
    }

    private void parting() {
        promise(26);
        edge("A Double is parted: of columns a .. b the one with the least INK,",
            this::partAtTheLeast, this::partAtAOrB, this::partLooksAtAToBAlone, this::partOfOneColumn);
        edge("of equal ones the nearest to the middle of these (twice the column less a and b the least in"
            + " size), then the left one;", this::partNearestToTheMiddle, this::partTheLeftOfTwo);
        edge("if its INK is more than e: NONE.", this::partJustE, this::partByAnyE);
        edge("The PAGE keeps the columns ahead of it, those from it on are a new PAGE: its number.",
            this::partInTwo, this::partOfTheWidest, this::partTheEighth);
        edge("NONE: no such PAGE, a not 1 .. b, b not below w, e below 0; 8 PAGES.",
            this::partNoSuchPage, this::partOtherA, this::partOtherB, this::partOfOneWide, this::partOtherE,
            this::partOfEightPages);
        edge("(Taken back the new PAGE is gone, if it is the last one; else it stays.)",
            this::partTakenBackIsGone, this::partTakenBackStays, this::partsTakenBackInTurn,
            this::partTakenBackOfEight);
    }

    private void takingBack() {
        promise(27);
        edge("The latest CHANGE is taken back: the PAGE that it was of.",
            this::backTellsThePage, this::backToAnotherSize, this::backRoundTheTen);
        edge("NONE: there is none that can be.", this::backOfNothing, this::backOfAllTen, this::backBehindLay);
        promise(28);
        edge("Number i of the ROW.", this::toldFirstAndLast);
        edge("NoSuchElementException: none such.", this::toldBesideTheBounds, this::toldOfAnEmptyRow,
            this::toldOfAShorterRow);
    }

    private void boxIs(String what, StraightPages x, int... want) {
        for (int i = 0; i < 4; i++) {
            due(what + " " + i, want[i], x.box(0, i));
        }
    }

    private void boxOfEachCorner() {
        int[][] corners = {{0, 0}, {63, 0}, {0, 63}, {63, 63}};
        for (int[] c : corners) {
            StraightPages x = Desk.plain(64, 64, false);
            x.set(0, c[0], c[1], true);
            boxIs("corner", x, c[0], c[1], c[0], c[1]);
        }
        boxIs("four sides apart", Desk.of(".....", ".#...", "...#.", ".....", "..#.."), 1, 1, 3, 4);
    }

    private void boxOfAFullPage() {
        boxIs("64 * 64", Desk.plain(64, 64, true), 0, 0, 63, 63);
        boxIs("1 * 1", Desk.plain(1, 1, true), 0, 0, 0, 0);
    }

    private void boxNoSuchPage() {
        int[] pages = {-1, 3, 8, LEAST, MOST};
        for (int page : pages) {
            for (int what = 0; what < 4; what++) {
                int each = what;
                refuses("page " + page + " what " + what, x -> x.box(page, each));
            }
        }
    }

    private void boxNoInk() {
        for (int what = 0; what < 4; what++) {
            int each = what;
            leaves("what " + what, NONE, () -> Desk.plain(64, 64, false), x -> x.box(0, each));
        }
    }

    private void boxAnotherWhat() {
        int[] others = {-1, 4, LEAST, MOST};
        for (int what : others) {
            refuses("what " + what, x -> x.box(0, what));
        }
    }

    private void cutByLeast() {
        StraightPages x = Desk.of(".....", "..#..", ".....");
        due("m 0", true, x.cut(0, 0));
        looks("m 0", x, 0, "#");
        due("a change", 1, x.count(1));
    }

    private void cutByMost() {
        StraightPages x = Desk.of("#");
        due("m 20", true, x.cut(0, 20));
        due("w", 41, x.of(0, 0));
        due("h", 41, x.of(0, 1));
        due("its point", 1, x.at(0, 20, 20));
        due("ink", 1, x.of(0, 2));
    }

    private void cutWiderThanItWas() {
        StraightPages x = Desk.of("#.", "##");
        due("m 1", true, x.cut(0, 1));
        looks("m 1", x, 0, "....", ".#..", ".##.", "....");
        x.back();
        looks("back", x, 0, "#.", "##");
    }

    private void cutBringsNoInk() {
        StraightPages x = Desk.of("##...", "##...", ".....", ".....", "....#");
        x.take(0, 1, 0);
        due("m 1", true, x.cut(0, 1));
        looks("m 1", x, 0, "....", ".##.", ".##.", "....");
    }

    private void cutOfAllOfIt() {
        StraightPages x = Desk.plain(64, 64, true);
        due("m 0", true, x.cut(0, 0));
        due("w", 64, x.of(0, 0));
        due("h", 64, x.of(0, 1));
        due("ink", 4096, x.of(0, 2));
        due("a change", 1, x.count(1));
    }

    private void cutFromTheFarCorner() {
        StraightPages x = Desk.plain(64, 64, false);
        x.set(0, 63, 63, true);
        due("m 3", true, x.cut(0, 3));
        due("w", 7, x.of(0, 0));
        due("h", 7, x.of(0, 1));
        due("its row", 8L, x.row(0, 3));
        due("ink", 1, x.of(0, 2));
    }

    private void cutNoSuchPage() {
        int[] pages = {-1, 3, 8, LEAST, MOST};
        for (int page : pages) {
            refusesByFalse("page " + page, x -> one(x.cut(page, 1)));
        }
    }

    private void cutNoInk() {
        leaves("m 0", 0L, () -> Desk.plain(5, 5, false), x -> one(x.cut(0, 0)));
        leaves("m 20", 0L, () -> Desk.plain(64, 64, false), x -> one(x.cut(0, 20)));
    }

    private void cutOtherM() {
        int[] others = {-1, 21, LEAST, MOST, 0x4000_0000};
        for (int m : others) {
            refusesByFalse("m " + m, x -> one(x.cut(0, m)));
            leaves("one point, m " + m, 0L, () -> Desk.of("...", ".#.", "..."), x -> one(x.cut(0, m)));
        }
    }

    private void cutJustWideEnough() {
        StraightPages x = Desk.plain(24, 24, true);
        due("24 and 2 * 20", true, x.cut(0, 20));
        due("w", 64, x.of(0, 0));
        due("h", 64, x.of(0, 1));
        due("ink", 24 * 24, x.of(0, 2));
        due("first row", 0xFF_FFFFL << 20, x.row(0, 20));
        due("last row", 0xFF_FFFFL << 20, x.row(0, 43));
        due("62 and 2", true, Desk.plain(62, 62, true).cut(0, 1));
    }

    private void cutTooWide() {
        leaves("25 and 2 * 20", 0L, () -> Desk.plain(25, 1, true), x -> one(x.cut(0, 20)));
        leaves("63 and 2", 0L, () -> Desk.plain(63, 1, true), x -> one(x.cut(0, 1)));
        leaves("64 and 2", 0L, () -> Desk.plain(64, 1, true), x -> one(x.cut(0, 1)));
        due("62 and 2", true, Desk.plain(62, 1, true).cut(0, 1));
    }

    private void cutTooHigh() {
        leaves("25 and 2 * 20", 0L, () -> Desk.plain(1, 25, true), x -> one(x.cut(0, 20)));
        leaves("63 and 2", 0L, () -> Desk.plain(1, 63, true), x -> one(x.cut(0, 1)));
        leaves("64 and 2", 0L, () -> Desk.plain(1, 64, true), x -> one(x.cut(0, 1)));
        due("62 and 2", true, Desk.plain(1, 62, true).cut(0, 1));
    }

    private void spansByLeastG() {
        StraightPages x = Desk.of("#.##.#");
        due("columns", 3, x.spans(0, 0, 1));
        tells("columns", x, 0, 0, 2, 3, 5, 5);
        StraightPages high = Desk.of("#", ".", "#", "#");
        due("lines", 2, high.spans(0, 1, 1));
        tells("lines", high, 0, 0, 2, 3);
    }

    private void spansByMostG() {
        StraightPages x = Desk.plain(64, 64, false);
        x.set(0, 0, 0, true);
        x.set(0, 63, 63, true);
        for (int what = 0; what <= 1; what++) {
            due("62 between, g 64", 1, x.spans(0, what, 64));
            tells("62 between, g 64", x, 0, 63);
            due("62 between, g 63", 1, x.spans(0, what, 63));
            due("62 between, g 62", 2, x.spans(0, what, 62));
            tells("62 between, g 62", x, 0, 0, 63, 63);
        }
    }

    private void spansBetweenJustG() {
        StraightPages x = Desk.of("#..#...#");
        due("g 2: 2 between are not fewer", 3, x.spans(0, 0, 2));
        due("g 3: 2 between are fewer", 2, x.spans(0, 0, 3));
        tells("g 3", x, 0, 3, 7, 7);
        due("g 4", 1, x.spans(0, 0, 4));
        tells("g 4", x, 0, 7);
    }

    private void spansOfNoInk() {
        StraightPages x = Desk.plain(64, 64, false);
        due("columns", 0, x.spans(0, 0, 1));
        tells("columns", x);
        due("lines", 0, x.spans(0, 1, 64));
        tells("lines", x);
    }

    private void spansOfAFullPage() {
        StraightPages x = Desk.plain(64, 64, true);
        due("columns", 1, x.spans(0, 0, 1));
        tells("columns", x, 0, 63);
        due("lines", 1, x.spans(0, 1, 1));
        tells("lines", x, 0, 63);
    }

    private void mostSpans() {
        StraightPages x = Desk.plain(64, 64, false);
        x.line(0, 7, 0x5555_5555_5555_5555L);
        due("columns", 32, x.spans(0, 0, 1));
        due("numbers", 64, x.count(3));
        for (int i = 0; i < 64; i++) {
            due("number " + i, i / 2 * 2, x.told(i));
        }
        StraightPages high = Desk.plain(1, 64, false);
        for (int y = 1; y < 64; y += 2) {
            high.set(0, 0, y, true);
        }
        due("lines", 32, high.spans(0, 1, 1));
        due("the last", 63, high.told(63));
        due("joined", 1, high.spans(0, 1, 2));
        tells("joined", high, 1, 63);
    }

    private void spansInFirstAndLastColumn() {
        StraightPages x = Desk.of("...", "..#");
        due("the last column", 1, x.spans(0, 0, 1));
        tells("the last column", x, 2, 2);
        due("the last row", 1, x.spans(0, 1, 1));
        tells("the last row", x, 1, 1);
        StraightPages point = Desk.of("#");
        due("1 * 1", 1, point.spans(0, 0, 64));
        tells("1 * 1", point, 0, 0);
    }

    private void spansAreNoChange() {
        StraightPages x = Desk.of("..");
        x.set(0, 0, 0, true);
        x.spans(0, 0, 1);
        due("changes", 1, x.count(1));
        x.back();
        looks("the one ahead of it", x, 0, "..");
        tells("the row stays", x, 0, 0);
    }

    private void spansNoSuchPage() {
        int[] pages = {-1, 3, 8, LEAST, MOST};
        for (int page : pages) {
            refuses("columns of page " + page, x -> x.spans(page, 0, 1));
            refuses("lines of page " + page, x -> x.spans(page, 1, 1));
        }
    }

    private void spansOtherG() {
        int[] others = {0, 65, -1, LEAST, MOST};
        for (int g : others) {
            refuses("columns, g " + g, x -> x.spans(0, 0, g));
            refuses("lines, g " + g, x -> x.spans(0, 1, g));
        }
    }

    private void spansAnotherWhat() {
        int[] others = {-1, 2, LEAST, MOST};
        for (int what : others) {
            refuses("what " + what, x -> x.spans(0, what, 1));
        }
    }

    /** Parts the page of these rows, and tells where: the width that it keeps. */
    private void seamIs(String what, int seam, int a, int b, String... rows) {
        StraightPages x = Desk.of(rows);
        due(what, 1, x.part(0, a, b, 64));
        due(what + ": seam", seam, x.of(0, 0));
        due(what + ": the rest", rows[0].length() - seam, x.of(1, 0));
    }

    private void partAtTheLeast() {
        seamIs("1 of 2 is the least", 4, 1, 6, "########", "####.###");
        seamIs("none is the least", 5, 1, 6, "#####.##", "####..##");
    }

    private void partAtAOrB() {
        seamIs("at a", 1, 1, 5, "#.######");
        seamIs("at b", 5, 1, 5, "#####.##");
        seamIs("at b, the last column", 7, 1, 7, "#######.");
    }

    private void partLooksAtAToBAlone() {
        seamIs("0 and 5 are lighter", 3, 2, 4, ".####.##");
        seamIs("1 and 7 are lighter", 4, 2, 6, "#.#####.");
    }

    private void partOfOneColumn() {
        for (int column = 1; column < 8; column++) {
            seamIs("column " + column, column, column, column, "########", "#.#.#.#.");
        }
    }

    private void partNearestToTheMiddle() {
        seamIs("all of 1 .. 7", 4, 1, 7, "........");
        seamIs("1 and 5 of 1 .. 7", 5, 1, 7, "#.###.##");
        seamIs("3 and 7 of 1 .. 7", 3, 1, 7, "###.###.");
        // 2 * 3 - 1 - 6 is -1, 2 * 5 - 1 - 6 is 3
        seamIs("3 and 5 of 1 .. 6", 3, 1, 6, "###.#.##");
        seamIs("2 and 4 of 1 .. 6", 4, 1, 6, "##.#.###");
    }

    private void partTheLeftOfTwo() {
        seamIs("all of 1 .. 6", 3, 1, 6, "........");
        seamIs("all of 6 .. 7", 6, 6, 7, "........");
        seamIs("2 and 6 of 1 .. 7", 2, 1, 7, "##.###.#");
        seamIs("1 and 7 of 1 .. 7", 1, 1, 7, "#.#####.");
        StraightPages x = Desk.plain(64, 2, false);
        due("all of 1 .. 63", 1, x.part(0, 1, 63, 0));
        due("all of 1 .. 63: seam", 32, x.of(0, 0));
    }

    private void partJustE() {
        StraightPages x = Desk.of("###", "###", "#..");
        leaves("2 are more than 1", NONE, () -> Desk.of("###", "###", "#.."), y -> y.part(0, 1, 2, 1));
        due("2 are not more than 2", 1, x.part(0, 1, 2, 2));
        leaves("1 is more than 0", NONE, () -> Desk.of("###"), y -> y.part(0, 1, 2, 0));
        due("0 are not", 1, Desk.of("#.#").part(0, 1, 2, 0));
        leaves("64 are more than 63", NONE, () -> Desk.plain(3, 64, true), y -> y.part(0, 1, 2, 63));
        due("64 are not more than 64", 1, Desk.plain(3, 64, true).part(0, 1, 2, 64));
    }

    private void partByAnyE() {
        due("the most", 1, Desk.plain(3, 64, true).part(0, 1, 2, MOST));
    }

    private void partInTwo() {
        StraightPages x = Desk.of("##.#", "#..#");
        due("number", 1, x.part(0, 1, 3, 0));
        looks("ahead of it", x, 0, "##", "#.");
        looks("from it on", x, 1, ".#", ".#");
        x.across(0, 16);
        looks("no ink is left behind the seam", x, 0, "##.", ".#.");
    }

    private void partOfTheWidest() {
        int[] seams = {1, 32, 63};
        for (int seam : seams) {
            StraightPages x = Desk.plain(64, 64, true);
            due("number", 1, x.part(0, seam, seam, 64));
            due("w", seam, x.of(0, 0));
            due("w of the new one", 64 - seam, x.of(1, 0));
            due("h of the new one", 64, x.of(1, 1));
            due("ink", 64 * seam, x.of(0, 2));
            due("ink of the new one", 64 * (64 - seam), x.of(1, 2));
            due("its last row", -1L >>> seam, x.row(1, 63));
            due("the last row", -1L >>> 64 - seam, x.row(0, 63));
            due("back", 0, x.back());
            due("ink again", 4096, x.of(0, 2));
        }
    }

    private void partTheEighth() {
        StraightPages x = Desk.of("#.#");
        for (int i = 1; i < 7; i++) {
            x.page(1, 1);
        }
        due("number", 7, x.part(0, 1, 1, 0));
        due("pages", 8, x.count(0));
        looks("the eighth", x, 7, ".#");
    }

    private void partNoSuchPage() {
        int[] pages = {-1, 3, 8, LEAST, MOST};
        for (int page : pages) {
            refuses("page " + page, x -> x.part(page, 1, 1, 64));
        }
        leaves("no pages", NONE, StraightPages::new, x -> x.part(0, 1, 1, 64));
    }

    private void partOtherA() {
        int[] others = {0, -1, 4, LEAST, MOST};
        for (int a : others) {
            refuses("a " + a + ", b 3", x -> x.part(0, a, 3, 64));
        }
        due("a 3, b 3", 3, Desk.busy().part(0, 3, 3, 64));
        due("a 1, b 3", 3, Desk.busy().part(0, 1, 3, 64));
        refuses("a 0, b 0", x -> x.part(0, 0, 0, 64));
        refuses("a -1, b -1", x -> x.part(0, -1, -1, 64));
    }

    private void partOtherB() {
        int w = Desk.busy().of(0, 0);
        int[] others = {w, w + 1, 64, MOST};
        for (int b : others) {
            refuses("b " + b, x -> x.part(0, 1, b, 64));
            refuses("a and b " + b, x -> x.part(0, b, b, 64));
        }
        due("b the last column", 3, Desk.busy().part(0, 1, w - 1, 64));
    }

    private void partOfOneWide() {
        leaves("1 * 1", NONE, () -> Desk.of("#"), x -> x.part(0, 1, 1, 64));
        leaves("1 * 1", NONE, () -> Desk.of("#"), x -> x.part(0, 0, 0, 64));
        due("2 * 1", 1, Desk.of("##").part(0, 1, 1, 64));
    }

    private void partOtherE() {
        int[] others = {-1, LEAST};
        for (int e : others) {
            refuses("e " + e, x -> x.part(0, 1, 3, e));
            leaves("no ink, e " + e, NONE, () -> Desk.plain(3, 3, false), x -> x.part(0, 1, 1, e));
        }
    }

    private static StraightPages eight() {
        StraightPages x = Desk.busy();
        for (int i = 3; i < 8; i++) {
            x.page(1, 1);
        }
        return x;
    }

    private void partOfEightPages() {
        leaves("eight", NONE, ContentEdges::eight, x -> x.part(0, 1, 3, 64));
    }

    private void partTakenBackIsGone() {
        StraightPages x = Desk.of("#.#");
        x.part(0, 1, 1, 0);
        due("back", 0, x.back());
        due("pages", 1, x.count(0));
        due("it is gone", NONE, x.of(1, 0));
        looks("whole again", x, 0, "#.#");
        due("its number again", 1, x.page(5, 5));
    }

    private void partTakenBackStays() {
        StraightPages x = Desk.of("#.#");
        x.part(0, 1, 1, 0);
        x.page(1, 1);
        due("back", 0, x.back());
        due("pages", 3, x.count(0));
        looks("whole again", x, 0, "#.#");
        looks("it stays", x, 1, ".#");
        due("the other one too", 1, x.of(2, 0));
        due("no more", NONE, x.back());
    }

    private void partsTakenBackInTurn() {
        StraightPages x = Desk.of("#.#.#");
        x.part(0, 1, 1, 0);
        x.part(1, 2, 2, 0);
        x.set(2, 0, 0, true);
        x.set(1, 0, 0, true);
        due("page 1", 1, x.back());
        due("page 2", 2, x.back());
        due("three pages", 3, x.count(0));
        due("the second part", 1, x.back());
        due("two pages", 2, x.count(0));
        looks("page 1", x, 1, ".#.#");
        due("the first part", 0, x.back());
        due("one page", 1, x.count(0));
        looks("page 0", x, 0, "#.#.#");
    }

    private void partTakenBackOfEight() {
        StraightPages x = Desk.of("#.#");
        for (int i = 1; i < 7; i++) {
            x.page(1, 1);
        }
        x.part(0, 1, 1, 0);
        due("no ninth", NONE, x.page(1, 1));
        due("back", 0, x.back());
        due("seven", 7, x.count(0));
        due("an eighth again", 7, x.page(2, 2));
    }

    private void backTellsThePage() {
        StraightPages x = new StraightPages();
        for (int i = 0; i < 8; i++) {
            x.page(1, 1);
        }
        x.set(7, 0, 0, true);
        x.set(0, 0, 0, true);
        due("page 0", 0, x.back());
        due("page 7", 7, x.back());
        due("page 7 is as it was", 0, x.at(7, 0, 0));
    }

    private void backToAnotherSize() {
        StraightPages x = Desk.plain(64, 64, true);
        x.lay(0, 1, 3, 63, 0L, 0L);
        x.set(0, 0, 0, false);
        x.line(0, 0, 0L);
        x.set(0, 63, 63, true);
        x.cut(0, 0);
        due("1 * 1", 1, x.of(0, 0));
        x.back();
        due("w", 64, x.of(0, 0));
        due("h", 64, x.of(0, 1));
        due("last row", Long.MIN_VALUE, x.row(0, 63));
        x.back();
        x.back();
        due("first row", -2L, x.row(0, 0));
        x.back();
        due("first row", -1L, x.row(0, 0));
        due("ink", 64, x.of(0, 2));
    }

    private void backRoundTheTen() {
        // changes and backs in turn, so that the ten places are gone round many times
        StraightPages x = Desk.plain(10, 1, false);
        int made = 0;
        int kept = 0;
        for (int turn = 1; turn <= 9; turn++) {
            for (int i = 0; i < 2 * turn; i++) {
                made++;
                x.line(0, 0, made);
                kept = Math.min(kept + 1, 10);
            }
            for (int i = 0; i < turn && kept > 0; i++) {
                due("back", 0, x.back());
                made--;
                kept--;
                due("row", made, x.row(0, 0));
            }
            due("left", kept, x.count(1));
        }
    }

    private void backOfNothing() {
        due("a new object", NONE, new StraightPages().back());
        StraightPages x = Desk.of("#");
        x.copy(0);
        due("pages alone", NONE, x.back());
        due("pages", 2, x.count(0));
    }

    private void backOfAllTen() {
        StraightPages x = Desk.busy();
        for (int i = 0; i < 10; i++) {
            hold("back " + i, x.back() >= 0);
        }
        String was = Desk.state(x);
        due("the eleventh", NONE, x.back());
        due("the twelfth", NONE, x.back());
        hold("and all stays", Desk.state(x).equals(was));
        x.set(0, 0, 0, true);
        due("one more", 1, x.count(1));
        due("back", 0, x.back());
        due("no more", NONE, x.back());
    }

    private void backBehindLay() {
        StraightPages x = Desk.busy();
        x.lay(0, 0, 4, 0, 0L, 0L);
        due("back", NONE, x.back());
        StraightPages parted = Desk.of("#.#");
        parted.part(0, 1, 1, 0);
        parted.lay(1, 0, 3, 1, 0L, 0L);
        due("back of a part", NONE, parted.back());
        due("pages", 2, parted.count(0));
    }

    private void toldFirstAndLast() {
        StraightPages x = Desk.plain(64, 1, false);
        x.line(0, 0, 0xAAAA_AAAA_AAAA_AAAAL);
        x.spans(0, 0, 1);
        due("the first", 1, x.told(0));
        due("the last", 63, x.told(63));
        throwsNoSuchElement("one more", () -> x.told(64));
    }

    private void toldBesideTheBounds() {
        StraightPages x = Desk.of("#.#");
        x.spans(0, 0, 1);
        due("the last", 2, x.told(3));
        int[] others = {-1, 4, 64, LEAST, MOST};
        for (int i : others) {
            throwsNoSuchElement("number " + i, () -> x.told(i));
        }
    }

    private void toldOfAnEmptyRow() {
        StraightPages x = Desk.of("#");
        throwsNoSuchElement("nothing was told yet", () -> x.told(0));
        x.spans(0, 0, 1);
        x.page(1, 1);
        x.spans(1, 0, 1);
        throwsNoSuchElement("nothing was told last", () -> x.told(0));
    }

    private void toldOfAShorterRow() {
        StraightPages x = Desk.of("#.#");
        x.spans(0, 0, 1);
        x.spans(0, 0, 2);
        due("its last", 2, x.told(1));
        throwsNoSuchElement("of the longer one ahead of it", () -> x.told(2));
    }
}
