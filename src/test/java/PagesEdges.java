/** Promises 1 to 11: pages. */
final class PagesEdges extends Edges {
    PagesEdges(Checks checks, DocText doc) {
        super(checks, doc);
    }

    @Override
    void all() {
        making();
        writing();
        laying();
        asking();
    }

    private void making() {
        promise(1);
        edge("No PAGES; LIST and ROW are empty.", this::nothingYet, this::nothingOfAnotherObject);
        promise(2);
        edge("A PAGE without INK: its number.", this::pageWithoutInk, this::pageInThePlaceOfOneThatIsGone);
        edge("NONE: other sizes, 8.", this::sizesTooSmall, this::sizesTooLarge, this::ninthPage);
        edge("(No CHANGE.)", this::pageIsNoChange);
        promise(3);
        edge("A PAGE more that is like one: its number.", this::copyIsLikeIt, this::copyGoesItsOwnWay,
            this::copyOfTheLargest, this::copyInThePlaceOfALargerOne);
        edge("NONE: none such, 8.", this::copyOfNone, this::ninthCopy);
        edge("(No CHANGE.)", this::copyIsNoChange);
    }

    private void writing() {
        promise(4);
        edge("INK at a point, or none: true; false for none such.",
            this::setAndSetOff, this::setInEachCorner, this::setNoSuchPage, this::setNoSuchColumn,
            this::setNoSuchRow);
        promise(5);
        edge("Row y becomes bits (x 0 the lowest; those from w on count nothing): how much INK it has.",
            this::lineOfEachWidth, this::lineOfNothing, this::lineInFirstAndLastRow);
        edge("NONE: none such.", this::lineNoSuchPage, this::lineNoSuchRow);
    }

    private void laying() {
        promise(6);
        edge("Rows from y on become a sheet's: bytes (kind 0), shorts (1), ints (2), longs (3)"
            + " of n entries f, f + step, ..", this::layOneEntry, this::laySixtyFour, this::layStepsBelowZero);
        edge("(as longs go; of each the lowest 8, 16, 32, 64 bits, no sign going on),",
            this::layGoesRound, this::layWithoutSign, this::layJustBeyondEachKind, this::layFromWOn);
        edge("or a missing one (4): how many rows (up to the last one; of a missing one 0).",
            this::layUpToTheLastRow, this::layNoEntries, this::layAMissingOne);
        edge("Not a CHANGE;", this::layIsNoChange);
        edge("all CHANGES that were (of any PAGE) can't be taken back then, also if no row came.",
            this::layEndsChangesOfOtherPages, this::layOfNoneEndsChanges, this::layOfAMissingOneEndsChanges,
            this::changesBehindLay);
        edge("NONE: none such, kind, n above 64;",
            this::layNoSuchPage, this::layNoSuchRow, this::layNoSuchKind, this::layTooMany);
        edge("-2: n below 0 (of kinds 0 to 3; asked behind the others).",
            this::layLessThanNone, this::layLessThanNoneOfAMissingOne, this::layAsksForLessAtLast);
    }

    private void asking() {
        promise(7);
        edge("INK (1) or none (0) at a point.", this::atInkAndNone);
        edge("NONE: none such.", this::atNoSuchPage, this::atNoSuchColumn, this::atNoSuchRow);
        promise(8);
        edge("Row y as bits.", this::rowFullAndEmpty);
        edge("NoSuchElementException: none such.", this::rowNoSuchPage, this::rowNoSuchRow);
        promise(9);
        edge("Of a PAGE, what 0: w, 1: h, 2: INK, 3: rows with INK, 4: columns with INK, 5: SPOTS,"
            + " 6: points of the largest SPOT.",
            this::ofAFullPage, this::ofAnEmptyPage, this::ofTheSmallest, this::ofMostSpots);
        edge("NONE: none such, another what.", this::ofNoSuchPage, this::ofAnotherWhat);
        promise(10);
        edge("What 0: PAGES, 1: CHANGES that can be taken back, 2: points of the LIST, 3: numbers of the ROW.",
            this::countNothing, this::countMost);
        edge("NONE for another what.", this::countAnotherWhat);
        promise(11);
        edge("The first row in which two PAGES of one size are unlike;",
            this::unlikeInFirstAndLastRow, this::unlikeInManyRows);
        edge("100: their sizes are unlike;", this::unlikeInSize);
        edge("NONE: they are alike;", this::alikeThemselves, this::alikeCopies);
        edge("-2: no such PAGES.", this::unlikeNoSuchPages);
    }

    private void nothingYet() {
        StraightPages x = new StraightPages();
        due("pages", 0, x.count(0));
        due("page 0", NONE, x.of(0, 0));
        due("changes", 0, x.count(1));
        due("back", NONE, x.back());
        due("list", 0, x.count(2));
        due("row", 0, x.count(3));
        throwsNoSuchElement("listed 0", () -> x.listed(0, 0));
        throwsNoSuchElement("told 0", () -> x.told(0));
    }

    private void nothingOfAnotherObject() {
        Desk.busy();
        StraightPages x = new StraightPages();
        hold("it is new", Desk.state(x).equals("changes 0 list row"));
    }

    private void pageWithoutInk() {
        StraightPages x = new StraightPages();
        due("first", 0, x.page(64, 64));
        due("ink", 0, x.of(0, 2));
        due("second", 1, x.page(1, 1));
        due("ink", 0, x.at(1, 0, 0));
    }

    private void pageInThePlaceOfOneThatIsGone() {
        StraightPages x = Desk.plain(6, 6, true);
        x.part(0, 1, 1, 9);
        x.back();
        due("number", 1, x.page(3, 3));
        looks("no ink of the one that is gone", x, 1, "...", "...", "...");
        x.cut(0, 0);
        due("nor around it", 0, x.of(1, 6));
    }

    private void sizesTooSmall() {
        int[][] sizes = {{0, 1}, {1, 0}, {0, 0}, {-1, 64}, {64, -1}, {LEAST, 1}, {1, LEAST}};
        for (int[] size : sizes) {
            refuses(size[0] + " * " + size[1], x -> x.page(size[0], size[1]));
        }
    }

    private void sizesTooLarge() {
        int[][] sizes = {{65, 64}, {64, 65}, {65, 65}, {MOST, 1}, {1, MOST}};
        for (int[] size : sizes) {
            refuses(size[0] + " * " + size[1], x -> x.page(size[0], size[1]));
        }
    }

    /** The busy desk with five small pages more. */
    private static StraightPages eight() {
        StraightPages x = Desk.busy();
        for (int i = 3; i < 8; i++) {
            x.page(1, 1);
        }
        return x;
    }

    private void ninthPage() {
        StraightPages seven = new StraightPages();
        for (int i = 0; i < 7; i++) {
            seven.page(2, 2);
        }
        due("the eighth", 7, seven.page(2, 2));
        leaves("the ninth", NONE, PagesEdges::eight, x -> x.page(1, 1));
    }

    private void pageIsNoChange() {
        StraightPages x = Desk.of("..");
        x.set(0, 0, 0, true);
        x.page(5, 5);
        due("changes", 1, x.count(1));
        due("back", 0, x.back());
        looks("the one ahead of it", x, 0, "..");
        due("it stays", 2, x.count(0));
    }

    private void copyIsLikeIt() {
        StraightPages x = Desk.of("#.#", ".##");
        due("number", 1, x.copy(0));
        looks("copy", x, 1, "#.#", ".##");
        due("of a copy", 2, x.copy(1));
        due("unlike", NONE, x.unlike(0, 2));
    }

    private void copyGoesItsOwnWay() {
        StraightPages x = Desk.of("#.", "..");
        x.copy(0);
        x.line(0, 1, 3L);
        looks("the copy", x, 1, "#.", "..");
        x.across(1, 16);
        looks("the first", x, 0, "#.", "##");
        x.back();
        looks("the copy", x, 1, "#.", "..");
    }

    private void copyOfTheLargest() {
        StraightPages x = Desk.plain(64, 64, true);
        due("number", 1, x.copy(0));
        due("ink", 4096, x.of(1, 2));
        due("last row", -1L, x.row(1, 63));
    }

    private void copyInThePlaceOfALargerOne() {
        StraightPages x = Desk.plain(9, 9, true);
        Desk.add(x, "#.", ".#");
        // page 2 was larger once
        x.part(0, 1, 1, 9);
        x.back();
        due("number", 2, x.copy(1));
        looks("copy", x, 2, "#.", ".#");
        x.upright(2, 16);
        looks("nothing of the larger one comes in", x, 2, "#.", "..", ".#");
    }

    private void copyOfNone() {
        int[] pages = {-1, 3, 7, 8, LEAST, MOST};
        for (int page : pages) {
            refuses("page " + page, x -> x.copy(page));
        }
        leaves("of an empty desk", NONE, StraightPages::new, x -> x.copy(0));
    }

    private void ninthCopy() {
        StraightPages x = Desk.of("#");
        for (int i = 1; i < 8; i++) {
            due("number", i, x.copy(0));
        }
        due("the ninth", NONE, x.copy(0));
        leaves("the ninth", NONE, PagesEdges::eight, y -> y.copy(0));
        leaves("the ninth of none such", NONE, PagesEdges::eight, y -> y.copy(8));
    }

    private void copyIsNoChange() {
        StraightPages x = Desk.of("..");
        x.set(0, 0, 0, true);
        x.copy(0);
        due("changes", 1, x.count(1));
        due("back", 0, x.back());
        looks("the one ahead of it", x, 0, "..");
        looks("the copy stays", x, 1, "#.");
    }

    private void setAndSetOff() {
        StraightPages x = Desk.of("...");
        due("on", true, x.set(0, 1, 0, true));
        looks("on", x, 0, ".#.");
        due("on again", true, x.set(0, 1, 0, true));
        looks("on again", x, 0, ".#.");
        due("off", true, x.set(0, 1, 0, false));
        looks("off", x, 0, "...");
        due("off again", true, x.set(0, 1, 0, false));
        looks("off again", x, 0, "...");
    }

    private void setInEachCorner() {
        StraightPages x = Desk.plain(64, 64, false);
        int[][] corners = {{0, 0}, {63, 0}, {0, 63}, {63, 63}};
        for (int[] c : corners) {
            due("corner", true, x.set(0, c[0], c[1], true));
        }
        due("first row", 0x8000_0000_0000_0001L, x.row(0, 0));
        due("last row", 0x8000_0000_0000_0001L, x.row(0, 63));
        due("off", true, x.set(0, 63, 63, false));
        due("last row", 1L, x.row(0, 63));
        due("ink", 3, x.of(0, 2));
    }

    private void setNoSuchPage() {
        int[] pages = {-1, 3, 8, LEAST, MOST};
        for (int page : pages) {
            refusesByFalse("page " + page, x -> one(x.set(page, 0, 0, true)));
        }
    }

    private void setNoSuchColumn() {
        int w = Desk.busy().of(0, 0);
        int[] columns = {-1, w, 63, 64, LEAST, MOST};
        for (int column : columns) {
            refusesByFalse("column " + column, x -> one(x.set(0, column, 0, true)));
            refusesByFalse("column " + column, x -> one(x.set(0, column, 0, false)));
        }
    }

    private void setNoSuchRow() {
        int h = Desk.busy().of(0, 1);
        int[] rows = {-1, h, 63, 64, LEAST, MOST};
        for (int row : rows) {
            refusesByFalse("row " + row, x -> one(x.set(0, 0, row, true)));
        }
    }

    private void lineOfEachWidth() {
        for (int w = 1; w <= 64; w++) {
            StraightPages x = Desk.plain(w, 1, false);
            due("w " + w, w, x.line(0, 0, -1L));
            due("row of w " + w, w == 64 ? -1L : (1L << w) - 1L, x.row(0, 0));
            due("x 0 alone, w " + w, 1, x.line(0, 0, 1L));
            due("x 0, w " + w, 1, x.at(0, 0, 0));
            due("x w alone, w " + w, w == 64 ? 1 : 0, x.line(0, 0, 1L << w));
        }
    }

    private void lineOfNothing() {
        StraightPages x = Desk.plain(64, 2, true);
        due("nothing", 0, x.line(0, 1, 0L));
        due("nothing", 0L, x.row(0, 1));
        due("the other row", -1L, x.row(0, 0));
        StraightPages narrow = Desk.plain(3, 1, true);
        due("from w on alone", 0, narrow.line(0, 0, ~7L));
        looks("from w on alone", narrow, 0, "...");
    }

    private void lineInFirstAndLastRow() {
        StraightPages x = Desk.plain(64, 64, false);
        due("first", 1, x.line(0, 0, Long.MIN_VALUE));
        due("last", 63, x.line(0, 63, Long.MAX_VALUE));
        due("first", 1, x.at(0, 63, 0));
        due("last", 0, x.at(0, 63, 63));
        due("ink", 64, x.of(0, 2));
    }

    private void lineNoSuchPage() {
        int[] pages = {-1, 3, 8, LEAST, MOST};
        for (int page : pages) {
            refuses("page " + page, x -> x.line(page, 0, -1L));
        }
    }

    private void lineNoSuchRow() {
        int h = Desk.busy().of(0, 1);
        int[] rows = {-1, h, 63, 64, LEAST, MOST};
        for (int row : rows) {
            refuses("row " + row, x -> x.line(0, row, -1L));
        }
    }

    private void layOneEntry() {
        for (int kind = 0; kind <= 3; kind++) {
            StraightPages x = Desk.of("####", "####", "####");
            due("kind " + kind, 1, x.lay(0, 1, kind, 1, 5L, 100L));
            looks("kind " + kind, x, 0, "####", "#.#.", "####");
        }
    }

    private void laySixtyFour() {
        long[] masks = {0xFFL, 0xFFFFL, 0xFFFF_FFFFL, -1L};
        for (int kind = 0; kind <= 3; kind++) {
            StraightPages x = Desk.plain(64, 64, false);
            long f = 0x7654_3210_FEDC_BA98L;
            long step = 0x0123_4567_89AB_CDEFL;
            due("kind " + kind, 64, x.lay(0, 0, kind, 64, f, step));
            long entry = f;
            for (int y = 0; y < 64; y++) {
                due("kind " + kind + " row " + y, entry & masks[kind], x.row(0, y));
                entry += step;
            }
        }
    }

    private void layStepsBelowZero() {
        StraightPages x = Desk.plain(64, 3, false);
        due("rows", 3, x.lay(0, 0, 3, 3, 1L, -1L));
        due("first", 1L, x.row(0, 0));
        due("second", 0L, x.row(0, 1));
        due("third", -1L, x.row(0, 2));
    }

    private void layGoesRound() {
        StraightPages x = Desk.plain(64, 3, false);
        x.lay(0, 0, 3, 3, Long.MAX_VALUE, 1L);
        due("a long goes round", Long.MIN_VALUE, x.row(0, 1));
        x.lay(0, 0, 3, 3, 5L, Long.MIN_VALUE);
        due("twice the least is 0", 5L, x.row(0, 2));
        x.lay(0, 0, 2, 2, 0xFFFF_FFFFL, 1L);
        due("an int goes round", 0L, x.row(0, 1));
        x.lay(0, 0, 1, 2, 0xFFFFL, 1L);
        due("a short goes round", 0L, x.row(0, 1));
        x.lay(0, 0, 0, 2, 0xFFL, 1L);
        due("a byte goes round", 0L, x.row(0, 1));
    }

    private void layWithoutSign() {
        StraightPages x = Desk.plain(64, 2, false);
        long[] most = {0xFFL, 0xFFFFL, 0xFFFF_FFFFL, -1L};
        long[] half = {0x80L, 0x8000L, 0x8000_0000L, Long.MIN_VALUE};
        for (int kind = 0; kind <= 3; kind++) {
            x.lay(0, 0, kind, 1, -1L, 0L);
            due("-1 of kind " + kind, most[kind], x.row(0, 0));
            x.lay(0, 0, kind, 1, half[kind], 0L);
            due("the highest bit of kind " + kind, half[kind], x.row(0, 0));
        }
    }

    private void layJustBeyondEachKind() {
        StraightPages x = Desk.plain(64, 1, true);
        long[] beyond = {0x100L, 0x1_0000L, 0x1_0000_0000L};
        for (int kind = 0; kind < 3; kind++) {
            x.lay(0, 0, kind, 1, beyond[kind], 0L);
            due("the bit beyond kind " + kind, 0L, x.row(0, 0));
            x.lay(0, 0, kind + 1, 1, beyond[kind], 0L);
            due("the next kind has it, " + kind, beyond[kind], x.row(0, 0));
        }
    }

    private void layFromWOn() {
        int[] widths = {1, 7, 8, 9, 31, 32, 33, 63};
        for (int w : widths) {
            StraightPages x = Desk.plain(w, 1, false);
            x.lay(0, 0, 3, 1, -1L, 0L);
            due("w " + w, (1L << w) - 1L, x.row(0, 0));
            due("ink of w " + w, w, x.of(0, 2));
        }
    }

    private void layUpToTheLastRow() {
        StraightPages x = Desk.plain(3, 5, false);
        due("64 from the first row", 5, x.lay(0, 0, 0, 64, 7L, 0L));
        due("just as many", 2, x.lay(0, 3, 0, 2, 0L, 0L));
        due("one too many", 2, x.lay(0, 3, 0, 3, 0L, 0L));
        due("the last row", 1, x.lay(0, 4, 0, 64, 2L, 0L));
        looks("laid", x, 0, "###", "###", "###", "...", ".#.");
    }

    private void layNoEntries() {
        for (int kind = 0; kind <= 3; kind++) {
            StraightPages x = Desk.of("#.", ".#");
            due("kind " + kind, 0, x.lay(0, 0, kind, 0, -1L, 1L));
            looks("kind " + kind, x, 0, "#.", ".#");
        }
    }

    private void layAMissingOne() {
        int[] lengths = {0, 1, 64, -1, LEAST};
        for (int n : lengths) {
            StraightPages x = Desk.of("#.", ".#");
            due("n " + n, 0, x.lay(0, 0, 4, n, -1L, 1L));
            looks("n " + n, x, 0, "#.", ".#");
        }
    }

    private void layIsNoChange() {
        StraightPages x = Desk.of("..");
        x.lay(0, 0, 3, 1, 3L, 0L);
        due("changes", 0, x.count(1));
        due("back", NONE, x.back());
        looks("it stays", x, 0, "##");
    }

    private void layEndsChangesOfOtherPages() {
        StraightPages x = Desk.busy();
        due("ten", 10, x.count(1));
        due("lay", 1, x.lay(2, 0, 3, 1, 0L, 0L));
        due("none", 0, x.count(1));
        String was = Desk.state(x);
        due("back", NONE, x.back());
        hold("all stays, the list and the row too", Desk.state(x).equals(was));
    }

    private void layOfNoneEndsChanges() {
        StraightPages x = Desk.busy();
        due("no row", 0, x.lay(0, 0, 0, 0, 0L, 0L));
        due("none", 0, x.count(1));
        due("back", NONE, x.back());
    }

    private void layOfAMissingOneEndsChanges() {
        int[] lengths = {0, 64, -1};
        for (int n : lengths) {
            StraightPages x = Desk.busy();
            due("no row", 0, x.lay(0, 0, 4, n, 0L, 0L));
            due("none", 0, x.count(1));
            due("back", NONE, x.back());
        }
    }

    private void changesBehindLay() {
        StraightPages x = Desk.busy();
        x.lay(0, 0, 4, 0, 0L, 0L);
        x.line(2, 0, 0L);
        x.line(2, 0, 1L);
        due("those behind it", 2, x.count(1));
        due("back", 2, x.back());
        due("row", 0L, x.row(2, 0));
        due("back", 2, x.back());
        due("no more", NONE, x.back());
    }

    private void layNoSuchPage() {
        int[] pages = {-1, 3, 8, LEAST, MOST};
        for (int page : pages) {
            for (int kind = 0; kind <= 4; kind++) {
                int each = kind;
                refuses("page " + page + " kind " + kind, x -> x.lay(page, 0, each, 1, -1L, 0L));
            }
        }
    }

    private void layNoSuchRow() {
        int h = Desk.busy().of(0, 1);
        int[] rows = {-1, h, 64, LEAST, MOST};
        for (int row : rows) {
            for (int kind = 0; kind <= 4; kind++) {
                int each = kind;
                refuses("row " + row + " kind " + kind, x -> x.lay(0, row, each, 1, -1L, 0L));
            }
        }
        refuses("row of no entries", x -> x.lay(0, h, 0, 0, -1L, 0L));
    }

    private void layNoSuchKind() {
        int[] kinds = {-1, 5, LEAST, MOST};
        for (int kind : kinds) {
            refuses("kind " + kind, x -> x.lay(0, 0, kind, 1, -1L, 0L));
        }
    }

    private void layTooMany() {
        int[] lengths = {65, MOST};
        for (int n : lengths) {
            for (int kind = 0; kind <= 4; kind++) {
                int each = kind;
                refuses("n " + n + " kind " + kind, x -> x.lay(0, 0, each, n, -1L, 0L));
            }
        }
    }

    private void layLessThanNone() {
        int[] lengths = {-1, LEAST};
        for (int n : lengths) {
            for (int kind = 0; kind <= 3; kind++) {
                int each = kind;
                leaves("n " + n + " kind " + kind, -2, Desk::busy, x -> x.lay(0, 0, each, n, -1L, 0L));
            }
        }
    }

    private void layLessThanNoneOfAMissingOne() {
        due("n -1", 0, Desk.busy().lay(0, 0, 4, -1, 0L, 0L));
        due("the least n", 0, Desk.busy().lay(0, 0, 4, LEAST, 0L, 0L));
    }

    private void layAsksForLessAtLast() {
        refuses("no such page", x -> x.lay(3, 0, 0, -1, -1L, 0L));
        refuses("no such row", x -> x.lay(0, -1, 0, -1, -1L, 0L));
        refuses("no such kind below", x -> x.lay(0, 0, -1, -1, -1L, 0L));
        refuses("no such kind above", x -> x.lay(0, 0, 5, -1, -1L, 0L));
    }

    private void atInkAndNone() {
        StraightPages x = Desk.plain(64, 64, false);
        x.set(0, 63, 63, true);
        x.set(0, 0, 0, true);
        due("first", 1, x.at(0, 0, 0));
        due("last", 1, x.at(0, 63, 63));
        due("none", 0, x.at(0, 63, 0));
        due("none", 0, x.at(0, 0, 63));
        due("none", 0, x.at(0, 62, 63));
    }

    private void atNoSuchPage() {
        int[] pages = {-1, 3, 8, LEAST, MOST};
        for (int page : pages) {
            refuses("page " + page, x -> x.at(page, 0, 0));
        }
    }

    private void atNoSuchColumn() {
        int w = Desk.busy().of(0, 0);
        int[] columns = {-1, w, 63, 64, LEAST, MOST};
        for (int column : columns) {
            refuses("column " + column, x -> x.at(0, column, 0));
        }
    }

    private void atNoSuchRow() {
        int h = Desk.busy().of(0, 1);
        int[] rows = {-1, h, 63, 64, LEAST, MOST};
        for (int row : rows) {
            refuses("row " + row, x -> x.at(0, 0, row));
        }
    }

    private void rowFullAndEmpty() {
        StraightPages x = Desk.plain(64, 64, false);
        x.line(0, 0, -1L);
        x.line(0, 63, Long.MIN_VALUE);
        due("full", -1L, x.row(0, 0));
        due("empty", 0L, x.row(0, 1));
        due("the last point alone", Long.MIN_VALUE, x.row(0, 63));
    }

    private void rowNoSuchPage() {
        StraightPages x = Desk.busy();
        int[] pages = {-1, 3, 8, LEAST, MOST};
        for (int page : pages) {
            throwsNoSuchElement("page " + page, () -> x.row(page, 0));
        }
    }

    private void rowNoSuchRow() {
        StraightPages x = Desk.of("##", "##");
        int[] rows = {-1, 2, 63, 64, LEAST, MOST};
        for (int row : rows) {
            throwsNoSuchElement("row " + row, () -> x.row(0, row));
        }
        StraightPages full = Desk.plain(64, 64, true);
        throwsNoSuchElement("row 64 of 64", () -> full.row(0, 64));
    }

    private void ofIs(String what, StraightPages x, int... want) {
        for (int i = 0; i < want.length; i++) {
            due(what + ", what " + i, want[i], x.of(0, i));
        }
    }

    private void ofAFullPage() {
        ofIs("64 * 64", Desk.plain(64, 64, true), 64, 64, 4096, 64, 64, 1, 4096);
        ofIs("64 * 1", Desk.plain(64, 1, true), 64, 1, 64, 1, 64, 1, 64);
        ofIs("1 * 64", Desk.plain(1, 64, true), 1, 64, 64, 64, 1, 1, 64);
    }

    private void ofAnEmptyPage() {
        ofIs("64 * 64", Desk.plain(64, 64, false), 64, 64, 0, 0, 0, 0, 0);
        ofIs("1 * 1", Desk.plain(1, 1, false), 1, 1, 0, 0, 0, 0, 0);
    }

    private void ofTheSmallest() {
        ofIs("1 * 1", Desk.plain(1, 1, true), 1, 1, 1, 1, 1, 1, 1);
    }

    private void ofMostSpots() {
        StraightPages x = Desk.plain(64, 64, false);
        for (int y = 0; y < 64; y += 2) {
            x.lay(0, y, 3, 1, 0xAAAA_AAAA_AAAA_AAAAL, 0L);
        }
        ofIs("dots", x, 64, 64, 1024, 32, 32, 1024, 1);
        StraightPages comb = Desk.plain(64, 64, false);
        comb.lay(0, 0, 3, 63, 0x5555_5555_5555_5555L, 0L);
        ofIs("teeth", comb, 64, 64, 32 * 63, 63, 32, 32, 63);
        comb.lay(0, 63, 3, 1, -1L, 0L);
        ofIs("a comb", comb, 64, 64, 32 * 63 + 64, 64, 64, 1, 32 * 63 + 64);
    }

    private void ofNoSuchPage() {
        int[] pages = {-1, 3, 8, LEAST, MOST};
        for (int page : pages) {
            for (int what = 0; what <= 6; what++) {
                int each = what;
                refuses("page " + page + " what " + what, x -> x.of(page, each));
            }
        }
    }

    private void ofAnotherWhat() {
        int[] whats = {-1, 7, LEAST, MOST};
        for (int what : whats) {
            refuses("what " + what, x -> x.of(0, what));
        }
    }

    private void countNothing() {
        StraightPages x = new StraightPages();
        for (int what = 0; what <= 3; what++) {
            due("what " + what, 0, x.count(what));
        }
    }

    private void countMost() {
        StraightPages x = Desk.plain(64, 64, true);
        x.set(0, 5, 5, false);
        for (int i = 0; i < 12; i++) {
            x.shadow(0, 99);
            x.back();
            x.set(0, 5, 5, false);
        }
        due("ten changes", 10, x.count(1));
        x.shadow(0, 99);
        due("63 columns of 64", 63 * 64, x.count(2));
        x.line(0, 0, 0x5555_5555_5555_5555L);
        x.back();
        x.lay(0, 0, 3, 64, 0x5555_5555_5555_5555L, 0L);
        x.spans(0, 0, 1);
        due("64 numbers", 64, x.count(3));
        for (int i = 1; i < 8; i++) {
            x.copy(0);
        }
        due("eight pages", 8, x.count(0));
        StraightPages dots = Desk.plain(64, 64, true);
        dots.lay(0, 1, 3, 63, 0L, 0L);
        dots.take(0, 64, 0);
        due("64 points", 64, dots.count(2));
    }

    private void countAnotherWhat() {
        int[] whats = {-1, 4, LEAST, MOST};
        for (int what : whats) {
            refuses("what " + what, x -> x.count(what));
        }
    }

    private void unlikeInFirstAndLastRow() {
        StraightPages x = Desk.plain(64, 64, true);
        x.copy(0);
        x.set(1, 63, 63, false);
        due("the last row", 63, x.unlike(0, 1));
        due("the last row, the other way", 63, x.unlike(1, 0));
        x.set(0, 0, 0, false);
        due("the first row", 0, x.unlike(0, 1));
    }

    private void unlikeInManyRows() {
        StraightPages x = Desk.of("#", "#", "#", "#");
        Desk.add(x, "#", ".", "#", ".");
        due("the first of two", 1, x.unlike(0, 1));
    }

    private void unlikeInSize() {
        StraightPages x = Desk.plain(3, 4, false);
        x.page(4, 4);
        x.page(3, 5);
        x.page(4, 3);
        x.page(3, 4);
        due("w", 100, x.unlike(0, 1));
        due("h", 100, x.unlike(0, 2));
        due("both", 100, x.unlike(0, 3));
        due("both, the other way", 100, x.unlike(3, 0));
        due("neither", NONE, x.unlike(0, 4));
    }

    private void alikeThemselves() {
        StraightPages x = Desk.of("#.", ".#");
        due("itself", NONE, x.unlike(0, 0));
        due("1 * 1", NONE, Desk.plain(1, 1, true).unlike(0, 0));
    }

    private void alikeCopies() {
        StraightPages x = Desk.plain(64, 64, true);
        x.copy(0);
        due("full", NONE, x.unlike(0, 1));
        x.set(1, 3, 3, false);
        x.back();
        due("taken back", NONE, x.unlike(1, 0));
    }

    private void unlikeNoSuchPages() {
        int[] pages = {-1, 3, 8, LEAST, MOST};
        for (int page : pages) {
            leaves("the first, " + page, -2, Desk::busy, x -> x.unlike(page, 0));
            leaves("the second, " + page, -2, Desk::busy, x -> x.unlike(0, page));
            leaves("both, " + page, -2, Desk::busy, x -> x.unlike(page, page));
        }
        leaves("no pages", -2, StraightPages::new, x -> x.unlike(0, 0));
    }
}
