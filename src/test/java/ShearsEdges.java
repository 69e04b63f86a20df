import java.util.function.Supplier;

/** Promises 12 to 16: shears. */
final class ShearsEdges extends Edges {
    ShearsEdges(Checks checks, DocText doc) {
        super(checks, doc);
    }

    @Override
    void all() {
        promise(12);
        edge("SHEARED ACROSS: its w then.", this::acrossTellsW, this::acrossByNothing);
        edge("NONE: no such PAGE, s; it would be wider than 64.", this::acrossNoSuchPage,
            this::acrossNoSuchShear, this::acrossJustWideEnough, this::acrossTooWide);
        promise(13);
        edge("SHEARED UP: its h then.", this::uprightTellsH, this::uprightByNothing);
        edge("NONE likewise, higher.", this::uprightNoSuchPage, this::uprightNoSuchShear,
            this::uprightJustHighEnough, this::uprightTooHigh);
        promise(14);
        edge("SHEARED ACROSS by a, then UP by b, then ACROSS by a (one CHANGE): true;",
            this::turnIsThreeShears, this::turnIsOneChange, this::turnByNothing);
        edge("false: no such PAGE, a, b, or it would be too wide or high on the way.",
            this::turnNoSuchPage, this::turnNoSuchShears, this::turnTooWideAtFirst, this::turnTooHigh,
            this::turnTooHighByTheFirstShear, this::turnTooWideAtLast, this::turnJustFits);
        promise(15);
        edge("SHARPNESS by s.", this::sharpByBothBounds, this::sharpOfTheLargest);
        edge("NONE: no such PAGE, s.", this::sharpNoSuchPage, this::sharpNoSuchShear);
        promise(16);
        edge("ANGLE; 100: there is none.", this::angleOfNoInk, this::angleOfOneRow, this::angleOfTwoRows);
        edge("NONE: no such PAGE.", this::angleNoSuchPage);
    }

    private static Supplier<StraightPages> full(int w, int h) {
        return () -> Desk.plain(w, h, true);
    }

    private void acrossTellsW() {
        StraightPages x = Desk.of("#.", "#.", "##");
        due("by 16", 4, x.across(0, 16));
        looks("by 16", x, 0, "#...", ".#..", "..##");
        due("and by -16", 6, x.across(0, -16));
        looks("and by -16", x, 0, "..#...", "..#...", "..##..");
    }

    private void acrossByNothing() {
        StraightPages x = Desk.plain(64, 64, true);
        due("by 0", 64, x.across(0, 0));
        due("ink", 4096, x.of(0, 2));
        due("a change", 1, x.count(1));
    }

    private void acrossNoSuchPage() {
        int[] pages = {-1, 3, 8, LEAST, MOST};
        for (int page : pages) {
            refuses("page " + page, x -> x.across(page, 0));
        }
    }

    private void acrossNoSuchShear() {
        int[] shears = {-17, 17, 32, LEAST, MOST};
        for (int s : shears) {
            refuses("by " + s, x -> x.across(0, s));
            leaves("of one row by " + s, NONE, full(3, 1), x -> x.across(0, s));
        }
    }

    private void acrossJustWideEnough() {
        for (int s = -16; s <= 16; s += 32) {
            StraightPages x = Desk.plain(33, 32, true);
            due("31 wider by " + s, 64, x.across(0, s));
            due("ink", 33 * 32, x.of(0, 2));
            due("the widest row", 0x1_FFFF_FFFFL << 31, x.row(0, s > 0 ? 31 : 0));
        }
        StraightPages thin = Desk.plain(1, 64, true);
        due("63 wider", 64, thin.across(0, 16));
        due("the last row", Long.MIN_VALUE, thin.row(0, 63));
        StraightPages left = Desk.plain(1, 64, true);
        due("63 wider to the left", 64, left.across(0, -16));
        due("the first row", Long.MIN_VALUE, left.row(0, 0));
    }

    private void acrossTooWide() {
        leaves("31 wider", NONE, full(34, 32), x -> x.across(0, 16));
        leaves("31 wider to the left", NONE, full(34, 32), x -> x.across(0, -16));
        leaves("63 wider", NONE, full(2, 64), x -> x.across(0, 16));
        leaves("one wider", NONE, full(64, 17), x -> x.across(0, 1));
        due("16 rows by 1 are not", 64, Desk.plain(64, 16, true).across(0, 1));
        leaves("one wider to the left", NONE, full(64, 2), x -> x.across(0, -1));
    }

    private void uprightTellsH() {
        StraightPages x = Desk.of("###", "#..");
        due("by 16", 4, x.upright(0, 16));
        looks("by 16", x, 0, "#..", "##.", "..#", "...");
        due("and by -16", 6, x.upright(0, -16));
        looks("and by -16", x, 0, "...", "...", "###", "#..", "...", "...");
    }

    private void uprightByNothing() {
        StraightPages x = Desk.plain(64, 64, true);
        due("by 0", 64, x.upright(0, 0));
        due("ink", 4096, x.of(0, 2));
        due("a change", 1, x.count(1));
    }

    private void uprightNoSuchPage() {
        int[] pages = {-1, 3, 8, LEAST, MOST};
        for (int page : pages) {
            refuses("page " + page, x -> x.upright(page, 0));
        }
    }

    private void uprightNoSuchShear() {
        int[] shears = {-17, 17, 32, LEAST, MOST};
        for (int s : shears) {
            refuses("by " + s, x -> x.upright(0, s));
            leaves("of one column by " + s, NONE, full(1, 3), x -> x.upright(0, s));
        }
    }

    private void uprightJustHighEnough() {
        for (int s = -16; s <= 16; s += 32) {
            StraightPages x = Desk.plain(32, 33, true);
            due("31 higher by " + s, 64, x.upright(0, s));
            due("ink", 33 * 32, x.of(0, 2));
            due("the last row", s > 0 ? 1L << 31 : 1L, x.row(0, 63));
            due("the first row", s > 0 ? 1L : 1L << 31, x.row(0, 0));
        }
        StraightPages flat = Desk.plain(64, 1, true);
        due("63 higher", 64, flat.upright(0, 16));
        due("the last row", Long.MIN_VALUE, flat.row(0, 63));
    }

    private void uprightTooHigh() {
        leaves("31 higher", NONE, full(32, 34), x -> x.upright(0, 16));
        leaves("31 higher to the left", NONE, full(32, 34), x -> x.upright(0, -16));
        leaves("63 higher", NONE, full(64, 2), x -> x.upright(0, 16));
        leaves("one higher", NONE, full(17, 64), x -> x.upright(0, 1));
        due("16 columns by 1 are not", 64, Desk.plain(16, 64, true).upright(0, 1));
        leaves("one higher to the left", NONE, full(2, 64), x -> x.upright(0, -1));
    }

    private void turnIsThreeShears() {
        for (int a = -16; a <= 16; a += 4) {
            for (int b = -16; b <= 16; b += 4) {
                StraightPages x = Desk.of("##.", "#..", "..#", ".##");
                x.copy(0);
                due("by " + a + ", " + b, true, x.turn(0, a, b));
                x.across(1, a);
                x.upright(1, b);
                x.across(1, a);
                due("as the three by " + a + ", " + b, NONE, x.unlike(0, 1));
            }
        }
    }

    private void turnIsOneChange() {
        StraightPages x = Desk.of("##.", "#..", "..#");
        x.turn(0, 8, -7);
        due("changes", 1, x.count(1));
        due("back", 0, x.back());
        looks("back", x, 0, "##.", "#..", "..#");
        due("no more", NONE, x.back());
    }

    private void turnByNothing() {
        StraightPages x = Desk.plain(64, 64, true);
        due("by 0", true, x.turn(0, 0, 0));
        due("ink", 4096, x.of(0, 2));
        due("a change", 1, x.count(1));
    }

    private void turnNoSuchPage() {
        int[] pages = {-1, 3, 8, LEAST, MOST};
        for (int page : pages) {
            refusesByFalse("page " + page, x -> one(x.turn(page, 0, 0)));
        }
    }

    private void turnNoSuchShears() {
        int[] shears = {-17, 17, 32, LEAST, MOST};
        for (int s : shears) {
            refusesByFalse("a " + s, x -> one(x.turn(0, s, 0)));
            refusesByFalse("b " + s, x -> one(x.turn(0, 0, s)));
            leaves("a of one point, " + s, 0L, full(1, 1), x -> one(x.turn(0, s, 0)));
            leaves("b of one point, " + s, 0L, full(1, 1), x -> one(x.turn(0, 0, s)));
        }
        due("the bounds themselves", true, Desk.plain(3, 3, true).turn(0, -16, 16));
        due("the bounds themselves", true, Desk.plain(3, 3, true).turn(0, 16, -16));
    }

    private void turnTooWideAtFirst() {
        leaves("31 wider", 0L, full(34, 32), x -> one(x.turn(0, 16, 0)));
        leaves("31 wider to the left", 0L, full(34, 32), x -> one(x.turn(0, -16, 0)));
        leaves("one wider", 0L, full(64, 2), x -> one(x.turn(0, -1, 0)));
    }

    private void turnTooHigh() {
        leaves("31 higher", 0L, full(32, 34), x -> one(x.turn(0, 0, 16)));
        leaves("31 higher to the left", 0L, full(32, 34), x -> one(x.turn(0, 0, -16)));
        leaves("one higher", 0L, full(2, 64), x -> one(x.turn(0, 0, -1)));
    }

    private void turnTooHighByTheFirstShear() {
        // 10 columns by 16 alone would be 9 higher; 64 rows by 1 make 13 columns, 12 higher
        due("10 columns, 55 rows", 64, Desk.plain(10, 55, true).upright(0, 16));
        leaves("13 columns then", 0L, full(10, 55), x -> one(x.turn(0, 1, 16)));
        due("52 rows fit", true, Desk.plain(10, 52, true).turn(0, 1, 16));
        leaves("53 rows do not", 0L, full(10, 53), x -> one(x.turn(0, 1, 16)));
    }

    private void turnTooWideAtLast() {
        // 17 rows make 16 columns more; 46 columns make 45 rows more, those 61 columns more
        leaves("high by then", 0L, full(30, 17), x -> one(x.turn(0, 16, 16)));
        leaves("as wide again", 0L, full(35, 16), x -> one(x.turn(0, 16, 0)));
        leaves("as wide again to the left", 0L, full(35, 16), x -> one(x.turn(0, -16, 0)));
    }

    private void turnJustFits() {
        StraightPages wide = Desk.plain(34, 16, true);
        due("64 wide at last", true, wide.turn(0, 16, 0));
        due("w", 64, wide.of(0, 0));
        due("ink", 34 * 16, wide.of(0, 2));
        due("the last row", 0x3_FFFF_FFFFL << 30, wide.row(0, 15));
        StraightPages high = Desk.plain(32, 33, true);
        due("64 high", true, high.turn(0, 0, 16));
        due("h", 64, high.of(0, 1));
        due("ink", 33 * 32, high.of(0, 2));
        due("64 wide all along", true, Desk.plain(64, 1, true).turn(0, 16, 0));
        StraightPages both = Desk.plain(1, 1, true);
        due("one point", true, both.turn(0, 16, 16));
        looks("one point", both, 0, "#");
    }

    private void sharpByBothBounds() {
        StraightPages x = Desk.of("####");
        due("by 12: 0, 0, 1, 2", 6, x.sharp(0, 12));
        due("by -12: 0, -1, -2, -3", 4, x.sharp(0, -12));
        due("by 0", 16, x.sharp(0, 0));
    }

    private void sharpOfTheLargest() {
        due("full", 64 * 64 * 64, Desk.plain(64, 64, true).sharp(0, 0));
        due("no ink", 0, Desk.plain(64, 64, false).sharp(0, 0));
        // the first column goes 48 rows below the last one, and no row has the ink of two then
        StraightPages x = Desk.plain(64, 64, false);
        x.set(0, 0, 63, true);
        x.set(0, 63, 0, true);
        x.set(0, 1, 63, true);
        due("the last row that there can be", 3, x.sharp(0, -12));
    }

    private void sharpNoSuchPage() {
        int[] pages = {-1, 3, 8, LEAST, MOST};
        for (int page : pages) {
            refuses("page " + page, x -> x.sharp(page, 0));
        }
    }

    private void sharpNoSuchShear() {
        int[] shears = {-13, 13, -16, 16, LEAST, MOST};
        for (int s : shears) {
            refuses("by " + s, x -> x.sharp(0, s));
        }
    }

    private void angleOfNoInk() {
        due("no ink", 100, Desk.plain(5, 5, false).angle(0));
        StraightPages x = Desk.of("#.", ".#");
        x.take(0, 9, 0);
        due("all ink taken", 100, x.angle(0));
    }

    private void angleOfOneRow() {
        due("the first row", 100, Desk.of("#.#", "...").angle(0));
        due("the last row", 100, Desk.of("...", "#.#").angle(0));
        StraightPages x = Desk.plain(64, 64, false);
        x.line(0, 63, -1L);
        due("a full row", 100, x.angle(0));
    }

    private void angleOfTwoRows() {
        due("two rows", -1, Desk.of("#.", ".#").angle(0));
        due("full", 0, Desk.plain(64, 64, true).angle(0));
    }

    private void angleNoSuchPage() {
        int[] pages = {-1, 3, 8, LEAST, MOST};
        for (int page : pages) {
            refuses("page " + page, x -> x.angle(page));
        }
        leaves("no pages", NONE, StraightPages::new, x -> x.angle(0));
    }
}
