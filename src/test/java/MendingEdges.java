/** Promises 17 to 22: mending. */
final class MendingEdges extends Edges {
    MendingEdges(Checks checks, DocText doc) {
        super(checks, doc);
    }

    @Override
    void all() {
        feet();
        specks();
        shadows();
    }

    private void feet() {
        promise(17);
        edge("BENT STRAIGHT: how many STEPS went.", this::bendOfNoInk, this::bendOfOneStep,
            this::bendOfStraightSteps, this::bendOfAllSteps, this::bendLeavesStepsWithoutInk);
        edge("NONE: no such PAGE.", this::bendNoSuchPage);
        promise(18);
        edge("FOOT of a STEP; 100: it has no INK.", this::footOfNoInk, this::footOfTheLastStep,
            this::footOfTheFirstRow);
        edge("NONE: no such PAGE, STEP.", this::footNoSuchPage, this::footNoSuchStep);
    }

    private void specks() {
        promise(19);
        edge("How many SPECKS there are by k (1 .. 100) and d (0 .. 20).", this::specksByLeastK,
            this::specksByMostK, this::specksByLeastD, this::specksByMostD, this::specksOfNoInk,
            this::mostSpecks, this::specksLeaveAll);
        edge("NONE: no such PAGE, others.", this::specksNoSuchPage, this::specksOtherK, this::specksOtherD);
        promise(20);
        edge("All SPECKS are taken, into the LIST: how many points.", this::takeNone, this::takeAllInk,
            this::takePointsNotSpecks, this::takeByMostK, this::takeByMostD);
        edge("NONE likewise.", this::takeNoSuchPage, this::takeOtherK, this::takeOtherD);
    }

    private void shadows() {
        promise(21);
        edge("INK of the SHADOW by p (1 .. 100) is taken, into the LIST: how many columns.",
            this::shadowByOne, this::shadowByAHundred, this::shadowOfAllOrNone,
            this::shadowCountsColumnsNotPoints, this::mostShadow);
        edge("NONE: no such PAGE, p.", this::shadowNoSuchPage, this::shadowOtherP);
        promise(22);
        edge("Point i of the LIST, what 0: x, 1: y.", this::listedFirstAndLast, this::listedOfManyRows);
        edge("NoSuchElementException: none such, another what.", this::listedBesideTheBounds,
            this::listedOfAnEmptyList, this::listedAnotherWhat);
    }

    private void bendOfNoInk() {
        StraightPages x = Desk.plain(64, 64, false);
        due("steps", 0, x.bend(0));
        due("ink", 0, x.of(0, 2));
        due("a change", 1, x.count(1));
    }

    private void bendOfOneStep() {
        StraightPages x = Desk.of("#......#", "........");
        due("steps", 0, x.bend(0));
        looks("it stays", x, 0, "#......#", "........");
        StraightPages point = Desk.of("#");
        due("one point", 0, point.bend(0));
        looks("one point", point, 0, "#");
    }

    private void bendOfStraightSteps() {
        StraightPages x = Desk.of("#........", "#.......#", ".........");
        due("steps", 0, x.bend(0));
        looks("it stays", x, 0, "#........", "#.......#", ".........");
        StraightPages full = Desk.plain(64, 64, true);
        due("full", 0, full.bend(0));
        due("full", 4096, full.of(0, 2));
    }

    private void bendOfAllSteps() {
        StraightPages x = Desk.plain(64, 64, false);
        for (int step = 0; step < 8; step++) {
            x.set(0, 8 * step, 63 - 9 * step, true);
            x.set(0, 8 * step + 7, 0, true);
        }
        due("all but the first", 7, x.bend(0));
        for (int step = 0; step < 8; step++) {
            due("foot of " + step, 63, x.foot(0, step));
            due("what was in row 0 of step " + step, 1, x.at(0, 8 * step + 7, 9 * step));
        }
        due("ink", 16, x.of(0, 2));
        due("again", 0, x.bend(0));
    }

    private void bendLeavesStepsWithoutInk() {
        StraightPages x = Desk.of("#........................", "........................#");
        due("steps", 1, x.bend(0));
        looks("bent", x, 0, ".........................", "#.......................#");
    }

    private void bendNoSuchPage() {
        int[] pages = {-1, 3, 8, LEAST, MOST};
        for (int page : pages) {
            refuses("page " + page, x -> x.bend(page));
        }
        leaves("no pages", NONE, StraightPages::new, x -> x.bend(0));
    }

    private void footOfNoInk() {
        StraightPages x = Desk.of("#.......", "........");
        due("foot", 0, x.foot(0, 0));
        x.line(0, 0, 0L);
        due("no ink", 100, x.foot(0, 0));
        StraightPages beside = Desk.of(".......##.......", "................");
        due("step 0", 0, beside.foot(0, 0));
        beside.set(0, 7, 0, false);
        due("step 0 without ink", 100, beside.foot(0, 0));
        due("step 1", 0, beside.foot(0, 1));
    }

    private void footOfTheLastStep() {
        StraightPages x = Desk.plain(64, 64, false);
        x.set(0, 56, 62, true);
        x.set(0, 63, 63, true);
        due("step 7", 63, x.foot(0, 7));
        x.set(0, 63, 63, false);
        due("step 7", 62, x.foot(0, 7));
        due("step 6", 100, x.foot(0, 6));
    }

    private void footOfTheFirstRow() {
        due("1 * 1", 0, Desk.of("#").foot(0, 0));
        due("1 * 1 without ink", 100, Desk.of(".").foot(0, 0));
    }

    private void footNoSuchPage() {
        int[] pages = {-1, 3, 8, LEAST, MOST};
        for (int page : pages) {
            refuses("page " + page, x -> x.foot(page, 0));
        }
    }

    private void footNoSuchStep() {
        int[] steps = {-1, 2, 7, 8, LEAST, MOST};
        for (int step : steps) {
            leaves("step " + step + " of w 16", NONE, () -> Desk.plain(16, 2, true), x -> x.foot(0, step));
        }
        leaves("step 8 of w 64", NONE, () -> Desk.plain(64, 2, true), x -> x.foot(0, 8));
        leaves("step 1 of w 8", NONE, () -> Desk.plain(8, 2, true), x -> x.foot(0, 1));
        due("step 1 of w 9", 1, Desk.plain(9, 2, true).foot(0, 1));
    }

    /** A block of so many points, ten a row, and one point far off. */
    private static StraightPages block(int points) {
        StraightPages x = Desk.plain(64, 64, false);
        for (int i = 0; i < points; i++) {
            x.set(0, i % 10, i / 10, true);
        }
        x.set(0, 63, 63, true);
        return x;
    }

    private void specksByLeastK() {
        StraightPages x = Desk.of("#.##");
        due("k 1", 1, x.specks(0, 1, 0));
        due("k 2", 2, x.specks(0, 2, 0));
    }

    private void specksByMostK() {
        due("100 points", 2, block(100).specks(0, 100, 0));
        due("101 points", 1, block(101).specks(0, 100, 0));
        due("100 points, k 99", 1, block(100).specks(0, 99, 0));
    }

    private void specksByLeastD() {
        StraightPages x = Desk.of("##.#");
        due("d 0: beside it is not near", 1, x.specks(0, 1, 0));
        due("d 1", 1, x.specks(0, 1, 1));
        due("d 2", 0, x.specks(0, 1, 2));
    }

    /** Two points in a corner, and one so far off them. */
    private static StraightPages farOff(int dx, int dy) {
        StraightPages x = Desk.plain(64, 64, false);
        x.set(0, 0, 0, true);
        x.set(0, 1, 1, true);
        x.set(0, 1 + dx, 1 + dy, true);
        return x;
    }

    private void specksByMostD() {
        due("20 off, d 20", 0, farOff(20, 20).specks(0, 1, 20));
        due("20 off, d 19", 1, farOff(20, 20).specks(0, 1, 19));
        due("21 off in x, d 20", 1, farOff(21, 20).specks(0, 1, 20));
        due("21 off in y, d 20", 1, farOff(20, 21).specks(0, 1, 20));
        due("20 off in x alone, d 20", 0, farOff(20, 0).specks(0, 1, 20));
        due("20 off in y alone, d 20", 0, farOff(0, 20).specks(0, 1, 20));
    }

    private void specksOfNoInk() {
        StraightPages x = Desk.plain(64, 64, false);
        due("least", 0, x.specks(0, 1, 0));
        due("most", 0, x.specks(0, 100, 20));
    }

    private void mostSpecks() {
        StraightPages x = Desk.plain(64, 64, false);
        for (int y = 1; y < 64; y += 2) {
            x.lay(0, y, 3, 1, 0xAAAA_AAAA_AAAA_AAAAL, 0L);
        }
        due("1024", 1024, x.specks(0, 1, 20));
        due("full", 0, Desk.plain(64, 64, true).specks(0, 100, 0));
    }

    private void specksLeaveAll() {
        leaves("all stays", 2, Desk::busy, x -> x.specks(1, 100, 0));
        leaves("no ink", 0, () -> Desk.plain(2, 2, false), x -> x.specks(0, 1, 0));
    }

    private void specksNoSuchPage() {
        int[] pages = {-1, 3, 8, LEAST, MOST};
        for (int page : pages) {
            refuses("page " + page, x -> x.specks(page, 1, 0));
        }
    }

    private void specksOtherK() {
        int[] others = {0, 101, -1, LEAST, MOST};
        for (int k : others) {
            refuses("k " + k, x -> x.specks(0, k, 0));
        }
    }

    private void specksOtherD() {
        int[] others = {-1, 21, LEAST, MOST};
        for (int d : others) {
            refuses("d " + d, x -> x.specks(0, 1, d));
        }
    }

    private void takeNone() {
        StraightPages x = Desk.of("##", "##");
        due("points", 0, x.take(0, 3, 0));
        lists("list", x);
        looks("page", x, 0, "##", "##");
        due("a change", 1, x.count(1));
        due("no ink", 0, Desk.plain(64, 64, false).take(0, 100, 20));
    }

    private void takeAllInk() {
        StraightPages x = Desk.of("##", "##");
        due("points", 4, x.take(0, 4, 0));
        lists("list", x, 0, 0, 1, 0, 0, 1, 1, 1);
        looks("page", x, 0, "..", "..");
        StraightPages dots = Desk.plain(64, 64, false);
        for (int y = 1; y < 64; y += 2) {
            dots.lay(0, y, 3, 1, 0xAAAA_AAAA_AAAA_AAAAL, 0L);
        }
        due("most specks", 1024, dots.take(0, 1, 20));
        due("ink", 0, dots.of(0, 2));
        due("x of the last", 63, dots.listed(1023, 0));
        due("y of the last", 63, dots.listed(1023, 1));
    }

    private void takePointsNotSpecks() {
        StraightPages x = Desk.of("##.#", "....", "####");
        due("specks", 2, x.specks(0, 2, 0));
        due("points", 3, x.take(0, 2, 0));
        looks("page", x, 0, "....", "....", "####");
    }

    private void takeByMostK() {
        StraightPages x = block(100);
        due("100 points and one", 101, x.take(0, 100, 0));
        due("ink", 0, x.of(0, 2));
        StraightPages more = block(101);
        due("101 points stay", 1, more.take(0, 100, 0));
        due("ink", 101, more.of(0, 2));
        lists("the one", more, 63, 63);
    }

    private void takeByMostD() {
        due("20 off", 0, farOff(20, 20).take(0, 1, 20));
        due("21 off", 1, farOff(20, 21).take(0, 1, 20));
        due("21 off", 1, farOff(21, 20).take(0, 1, 20));
    }

    private void takeNoSuchPage() {
        int[] pages = {-1, 3, 8, LEAST, MOST};
        for (int page : pages) {
            refuses("page " + page, x -> x.take(page, 1, 0));
        }
    }

    private void takeOtherK() {
        int[] others = {0, 101, -1, LEAST, MOST};
        for (int k : others) {
            refuses("k " + k, x -> x.take(0, k, 0));
        }
    }

    private void takeOtherD() {
        int[] others = {-1, 21, LEAST, MOST};
        for (int d : others) {
            refuses("d " + d, x -> x.take(0, 1, d));
        }
    }

    private void shadowByOne() {
        StraightPages x = Desk.plain(4, 64, false);
        x.set(0, 0, 9, true);
        x.set(0, 3, 63, true);
        due("columns", 2, x.shadow(0, 1));
        lists("list", x, 0, 9, 3, 63);
        due("ink", 0, x.of(0, 2));
    }

    private void shadowByAHundred() {
        StraightPages x = Desk.plain(3, 64, true);
        x.set(0, 1, 0, false);
        x.set(0, 2, 63, false);
        due("columns", 1, x.shadow(0, 100));
        due("points", 64, x.count(2));
        due("ink", 126, x.of(0, 2));
    }

    private void shadowOfAllOrNone() {
        StraightPages all = Desk.of("##", "##");
        due("all are dark", 0, all.shadow(0, 1));
        looks("all are dark", all, 0, "##", "##");
        lists("all are dark", all);
        due("a change", 1, all.count(1));
        StraightPages none = Desk.of(".#.", ".#.");
        due("none is at a side", 0, none.shadow(0, 1));
        looks("none is at a side", none, 0, ".#.", ".#.");
        due("a change", 1, none.count(1));
    }

    private void shadowCountsColumnsNotPoints() {
        StraightPages x = Desk.of("#.#", "#.#", "#..");
        due("columns", 2, x.shadow(0, 60));
        lists("points", x, 0, 0, 2, 0, 0, 1, 2, 1, 0, 2);
        looks("page", x, 0, "...", "...", "...");
    }

    private void mostShadow() {
        int[] light = {0, 20, 63};
        for (int column : light) {
            StraightPages x = Desk.plain(64, 64, true);
            x.set(0, column, 0, false);
            due("63 columns beside " + column, 63, x.shadow(0, 100));
            due("their points", 63 * 64, x.count(2));
            due("ink", 63, x.of(0, 2));
            due("back", 0, x.back());
            due("ink again", 4095, x.of(0, 2));
        }
    }

    private void shadowNoSuchPage() {
        int[] pages = {-1, 3, 8, LEAST, MOST};
        for (int page : pages) {
            refuses("page " + page, x -> x.shadow(page, 50));
        }
    }

    private void shadowOtherP() {
        int[] others = {0, 101, -1, LEAST, MOST};
        for (int p : others) {
            refuses("p " + p, x -> x.shadow(0, p));
        }
    }

    private void listedFirstAndLast() {
        StraightPages x = Desk.plain(64, 64, true);
        x.set(0, 0, 0, false);
        x.shadow(0, 100);
        due("x of the first", 1, x.listed(0, 0));
        due("y of the first", 0, x.listed(0, 1));
        due("the last of row 0", 63, x.listed(62, 0));
        due("the last of row 0", 0, x.listed(62, 1));
        due("the first of row 1", 1, x.listed(63, 0));
        due("the first of row 1", 1, x.listed(63, 1));
        due("x of the last", 63, x.listed(63 * 64 - 1, 0));
        due("y of the last", 63, x.listed(63 * 64 - 1, 1));
        throwsNoSuchElement("one more", () -> x.listed(63 * 64, 0));
    }

    private void listedOfManyRows() {
        StraightPages x = Desk.plain(64, 64, false);
        x.set(0, 63, 0, true);
        x.set(0, 0, 30, true);
        x.set(0, 40, 30, true);
        x.set(0, 5, 63, true);
        x.take(0, 1, 0);
        lists("rows without any between", x, 63, 0, 0, 30, 40, 30, 5, 63);
    }

    private void listedBesideTheBounds() {
        StraightPages x = Desk.of("#.#");
        x.take(0, 1, 0);
        due("the last", 2, x.listed(1, 0));
        int[] others = {-1, 2, 64, LEAST, MOST};
        for (int i : others) {
            throwsNoSuchElement("x of " + i, () -> x.listed(i, 0));
            throwsNoSuchElement("y of " + i, () -> x.listed(i, 1));
        }
    }

    private void listedOfAnEmptyList() {
        StraightPages x = Desk.of("#.#");
        throwsNoSuchElement("nothing was taken yet", () -> x.listed(0, 0));
        x.take(0, 1, 0);
        x.take(0, 1, 0);
        throwsNoSuchElement("nothing was taken last", () -> x.listed(0, 0));
    }

    private void listedAnotherWhat() {
        StraightPages x = Desk.of("#.#");
        x.take(0, 1, 0);
        int[] others = {-1, 2, LEAST, MOST};
        for (int what : others) {
            throwsNoSuchElement("what " + what, () -> x.listed(0, what));
        }
    }
}
