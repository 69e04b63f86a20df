/** The sentences of 'Terms', and the bound on calls of 'What it is'. */
final class TermsEdges extends Edges {
    TermsEdges(Checks checks, DocText doc) {
        super(checks, doc);
    }

    @Override
    void all() {
        part("What it is");
        edge("An object is used for at most 512 calls after it has been made;", this::call512);
        part("Terms");
        pages();
        shears();
        mending();
        changes();
    }

    private void pages() {
        edge("PAGES 0 .. (at most 8), each of w columns and h rows (1 .. 64 each): at x, y INK or none;",
            this::eightPages, this::leastAndMostSizes, this::sizesBesideThem);
        edge("x 0 .. w - 1 from the left, y 0 .. h - 1 from above.",
            this::firstAndLastPoint, this::pointsBesideThePage);
    }

    private void shears() {
        edge("SHEARED ACROSS by s (-16 .. 16): row y goes to the right by the greatest whole number"
            + " not above s * y / 16, less the least of these of all rows;",
            this::everySlideAcross, this::wholeNumbersNotAboveBelowZeroAcross,
            this::shearsAcrossBesideTheBounds);
        edge("the PAGE is wider by the greatest one (then).",
            this::widthOfEveryShear, this::oneRowGoesNowhere);
        edge("SHEARED UP by s: column x goes down by the greatest whole number not above s * x / 16,"
            + " less the least of all columns;",
            this::everySlideUp, this::wholeNumbersNotAboveBelowZeroUp, this::shearsUpBesideTheBounds);
        edge("the PAGE is higher likewise.", this::heightOfEveryShear, this::oneColumnGoesNowhere);
        edge("What is new is without INK.", this::newAcross, this::newUp);
        edge("SHARPNESS by s (-12 .. 12): of the PAGE SHEARED UP by s (also where that would be too high)"
            + " the sum, over its rows, of the squares of how much INK they have.",
            this::sharpnessOfEachShear, this::sharpnessWhereTooHigh, this::sharpnessBesideTheBounds,
            this::sharpnessWithoutInk);
        edge("ANGLE: the s with the greatest SHARPNESS;", this::angleAtBothBounds);
        edge("of equal ones that of the least size, then the one above 0.",
            this::angleOfAllAlike, this::angleOfLeastSize, this::angleAboveZero,
            this::angleBelowZeroIfSmaller);
        edge("A PAGE whose INK is in one row or none has none.",
            this::angleOfOneRow, this::angleOfNoInk, this::angleOfTwoRows);
    }

    private void mending() {
        edge("SPOTS: INK that hangs together over all eight neighbours.",
            this::eightNeighbours, this::twoApart, this::runsOfOneRowApart, this::spotsUpAndDown,
            this::spotsThatBranch, this::spotsDoNotGoRoundTheSides, this::spotsDoNotGoRoundTopAndBottom);
        edge("A SPECK by k and d: a SPOT of at most k points such that no point of a SPOT with more than k"
            + " is within d of one of its (both x and y at most d off).",
            this::speckOfJustK, this::speckJustBeyondD, this::speckBeyondDInOneWayAlone,
            this::speckBesideSmallOnes, this::speckNearASpotAtEachSide,
            this::speckDoesNotReachRoundTheSides, this::onePointOfASpeckIsNear);
        edge("CONTENT: the least box with all INK.", this::contentOfCorners, this::contentOfOnePoint);
        edge("FEET: STEPS are columns 0 .. 7, 8 .. 15, .. (the last one perhaps fewer);",
            this::stepsOfEachWidth, this::columnsOfEachStep);
        edge("the FOOT of a STEP: the lowest row with INK in it.",
            this::footInFirstAndLastRow, this::footIsTheLowestOfMany);
        edge("BENT STRAIGHT: each STEP with INK goes down by as many rows as the lowest FOOT of all is"
            + " below its.", this::bentFromTheFirstRowToTheLast, this::bentToTheLowestFootNotTheLastRow,
            this::bentWithAWidthThatIsNoStep);
        edge("DARK by p: a column with p or more of a hundred of its points INK.",
            this::darkByJustSoMany, this::darkByOne, this::darkByAHundred);
        edge("SHADOW by p: all columns from the left as long as they are DARK, then those from the right"
            + " likewise (if all are DARK: none).",
            this::shadowOfAllDark, this::shadowOfAllButOne, this::shadowOfNoneDark,
            this::shadowStopsAtTheFirstLightColumn, this::shadowOfOneColumn);
    }

    private void changes() {
        edge("CHANGES of a PAGE: across(), upright(), turn(), bend(), take(), shadow(), cut(), set(),"
            + " line(), part() that are not refused (also such that alter nothing);",
            this::eachKindIsAChange, this::changesThatAlterNothing, this::whatIsNoChange);
        edge("the latest 10 of all PAGES together can be taken back, the latest one first.",
            this::tenButNotTheEleventh, this::tenOfAllPages, this::latestFirst);
        edge("LIST: points that were taken by the latest take() or shadow(): from the first row on, in each"
            + " from the left (as x, y were then).",
            this::listInOrder, this::listOfTheLatestOne, this::listOfTheLatestThatTookNone,
            this::listAsPointsWereThen, this::otherCallsLeaveListAndRow, this::listStaysInSpans);
        edge("ROW: numbers told last by a call that says so.",
            this::rowOfTheLatestSpans, this::otherCallsLeaveListAndRow, this::rowStaysInTakeAndShadow);
        edge("Refused calls answer NONE, or false, and change nothing.",
            this::refusedPages, this::refusedShears, this::refusedMending, this::refusedContent,
            this::refusedAsks);
    }

    private void call512() {
        StraightPages x = Desk.of("#.");
        // two calls have made the page
        for (int i = 2; i < 510; i++) {
            x.set(0, 1, 0, i % 2 == 0);
        }
        due("call 511", 10, x.count(1));
        due("call 512", 1L, x.row(0, 0));
    }

    private void eightPages() {
        StraightPages x = new StraightPages();
        for (int i = 0; i < 8; i++) {
            due("number", i, x.page(1, 1));
        }
        due("a ninth one", NONE, x.page(1, 1));
        due("the last one", 1, x.of(7, 0));
        due("no ninth one", NONE, x.of(8, 0));
    }

    private void leastAndMostSizes() {
        StraightPages x = new StraightPages();
        int[][] sizes = {{1, 1}, {1, 64}, {64, 1}, {64, 64}};
        for (int i = 0; i < sizes.length; i++) {
            due("number", i, x.page(sizes[i][0], sizes[i][1]));
            due("w", sizes[i][0], x.of(i, 0));
            due("h", sizes[i][1], x.of(i, 1));
        }
    }

    private void sizesBesideThem() {
        StraightPages x = new StraightPages();
        int[][] sizes = {{0, 5}, {5, 0}, {65, 5}, {5, 65}};
        for (int[] size : sizes) {
            due(size[0] + " * " + size[1], NONE, x.page(size[0], size[1]));
        }
        due("pages", 0, x.count(0));
    }

    private void firstAndLastPoint() {
        StraightPages x = new StraightPages();
        x.page(7, 5);
        x.set(0, 0, 0, true);
        x.set(0, 6, 0, true);
        x.set(0, 0, 4, true);
        looks("corners", x, 0, "#.....#", ".......", ".......", ".......", "#......");
    }

    private void pointsBesideThePage() {
        StraightPages x = Desk.plain(7, 5, true);
        int[][] points = {{-1, 0}, {7, 0}, {0, -1}, {0, 5}, {7, 5}, {64, 0}, {0, 64}};
        for (int[] p : points) {
            due("at " + p[0] + ", " + p[1], NONE, x.at(0, p[0], p[1]));
            due("set " + p[0] + ", " + p[1], false, x.set(0, p[0], p[1], false));
        }
        due("ink", 35, x.of(0, 2));
    }

    /** The greatest whole number not above s * i / 16, less the least one of n, by counting. */
    private static int slid(int s, int i, int n) {
        int least = 0;
        for (int k = 0; k < n; k++) {
            least = Math.min(least, notAbove(s * k));
        }
        return notAbove(s * i) - least;
    }

    private static int notAbove(int sixteenths) {
        int whole = -100;
        while ((whole + 1) * 16 <= sixteenths) {
            whole++;
        }
        return whole;
    }

    private void everySlideAcross() {
        for (int s = -16; s <= 16; s++) {
            StraightPages x = Desk.plain(1, 64, true);
            x.across(0, s);
            for (int y = 0; y < 64; y++) {
                due("row " + y + " by " + s, 1L << slid(s, y, 64), x.row(0, y));
            }
        }
    }

    private void wholeNumbersNotAboveBelowZeroAcross() {
        StraightPages x = Desk.of("#", "#", "#");
        due("by -1: 0, -1, -1", 2, x.across(0, -1));
        looks("by -1", x, 0, ".#", "#.", "#.");
        x.back();
        due("by 1: 0, 0, 0", 1, x.across(0, 1));
    }

    private void shearsAcrossBesideTheBounds() {
        StraightPages x = Desk.of("##", "##");
        due("by -16", 3, x.across(0, -16));
        due("by 16", 4, x.across(0, 16));
        refuses("by -17", y -> y.across(0, -17));
        refuses("by 17", y -> y.across(0, 17));
        // by 64 and -64 a product of ints with a row would stay small: only s itself is too large
        refuses("by 64", y -> y.across(2, 64));
        refuses("by the least", y -> y.across(0, LEAST));
        refuses("by the most", y -> y.across(0, MOST));
    }

    private void widthOfEveryShear() {
        for (int s = -16; s <= 16; s++) {
            StraightPages x = Desk.plain(1, 64, false);
            int greatest = Math.max(slid(s, 0, 64), slid(s, 63, 64));
            due("by " + s, 1 + greatest, x.across(0, s));
            due("w then, by " + s, 1 + greatest, x.of(0, 0));
            due("h stays, by " + s, 64, x.of(0, 1));
        }
    }

    private void oneRowGoesNowhere() {
        StraightPages x = Desk.plain(64, 1, true);
        due("by 16", 64, x.across(0, 16));
        due("by -16", 64, x.across(0, -16));
        due("its row", -1L, x.row(0, 0));
    }

    private void everySlideUp() {
        for (int s = -16; s <= 16; s++) {
            StraightPages x = Desk.plain(64, 1, true);
            x.upright(0, s);
            for (int i = 0; i < 64; i++) {
                due("column " + i + " by " + s, 1, x.at(0, i, slid(s, i, 64)));
            }
            due("ink, by " + s, 64, x.of(0, 2));
        }
    }

    private void wholeNumbersNotAboveBelowZeroUp() {
        StraightPages x = Desk.of("###");
        due("by -1: 0, -1, -1", 2, x.upright(0, -1));
        looks("by -1", x, 0, ".##", "#..");
        x.back();
        due("by 1: 0, 0, 0", 1, x.upright(0, 1));
    }

    private void shearsUpBesideTheBounds() {
        StraightPages x = Desk.of("##", "##");
        due("by -16", 3, x.upright(0, -16));
        due("by 16", 4, x.upright(0, 16));
        refuses("by -17", y -> y.upright(0, -17));
        refuses("by 17", y -> y.upright(0, 17));
        refuses("by the least", y -> y.upright(0, LEAST));
        refuses("by the most", y -> y.upright(0, MOST));
    }

    private void heightOfEveryShear() {
        for (int s = -16; s <= 16; s++) {
            StraightPages x = Desk.plain(64, 1, false);
            int greatest = Math.max(slid(s, 0, 64), slid(s, 63, 64));
            due("by " + s, 1 + greatest, x.upright(0, s));
            due("h then, by " + s, 1 + greatest, x.of(0, 1));
            due("w stays, by " + s, 64, x.of(0, 0));
        }
    }

    private void oneColumnGoesNowhere() {
        StraightPages x = Desk.plain(1, 64, true);
        due("by 16", 64, x.upright(0, 16));
        due("by -16", 64, x.upright(0, -16));
        due("its ink", 64, x.of(0, 2));
    }

    private void newAcross() {
        StraightPages x = Desk.plain(3, 3, true);
        x.across(0, 16);
        looks("by 16", x, 0, "###..", ".###.", "..###");
        x.back();
        x.across(0, -16);
        looks("by -16", x, 0, "..###", ".###.", "###..");
    }

    private void newUp() {
        StraightPages x = Desk.plain(3, 3, true);
        x.upright(0, 16);
        looks("by 16", x, 0, "#..", "##.", "###", ".##", "..#");
        x.back();
        x.upright(0, -16);
        looks("by -16", x, 0, "..#", ".##", "###", "##.", "#..");
    }

    private static long sharpnessOf(boolean[][] ink, int s) {
        int[] rows = new int[300];
        for (int y = 0; y < ink.length; y++) {
            for (int i = 0; i < ink[y].length; i++) {
                rows[y + slid(s, i, ink[y].length)] += ink[y][i] ? 1 : 0;
            }
        }
        long sum = 0L;
        for (int n : rows) {
            sum += (long) n * n;
        }
        return sum;
    }

    /** Compares every sharpness of a page with what its points say. */
    private void sharpnessIsDue(String what, StraightPages x) {
        boolean[][] ink = new boolean[x.of(0, 1)][x.of(0, 0)];
        for (int y = 0; y < ink.length; y++) {
            long row = x.row(0, y);
            for (int i = 0; i < ink[y].length; i++) {
                ink[y][i] = (row >>> i & 1L) == 1L;
            }
        }
        for (int s = -12; s <= 12; s++) {
            due(what + " by " + s, sharpnessOf(ink, s), x.sharp(0, s));
        }
    }

    private void sharpnessOfEachShear() {
        sharpnessIsDue("a slope", Desk.of(
            "##..............",
            "..###.....#.....",
            ".....###........",
            "........###.....",
            "#..........####."));
        sharpnessIsDue("one point", Desk.of("#"));
    }

    private void sharpnessWhereTooHigh() {
        sharpnessIsDue("a full page", Desk.plain(64, 64, true));
        StraightPages x = Desk.plain(64, 64, true);
        due("upright is refused", NONE, x.upright(0, 12));
        sharpnessIsDue("a high page", Desk.plain(5, 64, true));
        due("no change of it", 0, x.count(1));
    }

    private void sharpnessBesideTheBounds() {
        StraightPages x = Desk.plain(2, 2, true);
        due("by -12", 6, x.sharp(0, -12));
        due("by 12", 8, x.sharp(0, 12));
        refuses("by -13", y -> y.sharp(0, -13));
        refuses("by 13", y -> y.sharp(0, 13));
        refuses("by the least", y -> y.sharp(0, LEAST));
        refuses("by the most", y -> y.sharp(0, MOST));
    }

    private void sharpnessWithoutInk() {
        StraightPages x = Desk.plain(64, 64, false);
        due("by 0", 0, x.sharp(0, 0));
        due("by 12", 0, x.sharp(0, 12));
        due("by -12", 0, x.sharp(0, -12));
    }

    private static int angleOf(int... points) {
        StraightPages x = new StraightPages();
        x.page(34, 34);
        for (int i = 0; i + 1 < points.length; i += 2) {
            x.set(0, points[i], points[i + 1], true);
        }
        return x.angle(0);
    }

    private void angleAtBothBounds() {
        // from column 4 to column 0 three rows: 3 * 16 / 4 is 12 and no smaller shear is enough
        due("12 alone", 12, angleOf(4, 0, 0, 3));
        // 9 rows to 11 columns, and the slide of column 11 by -11 is but 8
        due("-12 alone", -12, angleOf(0, 0, 11, 9));
        due("13 would be, 12 is not: all are alike", 0, angleOf(16, 0, 0, 13));
        due("-13 would be, -12 is not: all are alike", 0, angleOf(0, 0, 16, 13));
    }

    private void angleOfAllAlike() {
        due("one column", 0, angleOf(3, 0, 3, 1, 3, 5));
        StraightPages x = Desk.plain(1, 64, true);
        due("one full column", 0, x.angle(0));
    }

    private void angleOfLeastSize() {
        // columns 0 and 1 a row apart: by each s below 0 they come together
        due("-1 to -12 alike", -1, angleOf(0, 0, 1, 1));
        // columns 0 and 4 a row apart: by 4 to 7
        due("4 to 7 alike", 4, angleOf(4, 0, 0, 1));
    }

    private void angleAboveZero() {
        StraightPages x = new StraightPages();
        x.page(17, 32);
        int[][] points = {{16, 0}, {15, 1}, {0, 30}, {1, 31}};
        for (int[] p : points) {
            x.set(0, p[0], p[1], true);
        }
        due("by 1", 6, x.sharp(0, 1));
        due("by -1", 6, x.sharp(0, -1));
        for (int s = -12; s <= 12; s++) {
            hold("none is above 6, by " + s, x.sharp(0, s) <= 6);
        }
        due("1 and -1 alike", 1, x.angle(0));
    }

    private void angleBelowZeroIfSmaller() {
        // columns 0 and 1 come together by each s below 0, columns 8 and 0 by 2 and 3
        due("-1 and 2 alike", -1, angleOf(0, 0, 1, 1, 8, 20, 0, 21));
    }

    private void angleOfOneRow() {
        StraightPages x = Desk.of("....", "#..#", "....");
        due("one row", 100, x.angle(0));
        due("one row alone", 100, Desk.plain(64, 1, true).angle(0));
        due("one point", 100, Desk.of("..", ".#").angle(0));
    }

    private void angleOfNoInk() {
        due("1 * 1", 100, Desk.plain(1, 1, false).angle(0));
        due("64 * 64", 100, Desk.plain(64, 64, false).angle(0));
    }

    private void angleOfTwoRows() {
        due("two rows", 0, Desk.of("#", "#").angle(0));
        due("the first row and the last one", 0, angleOf(0, 0, 0, 33));
    }

    private void eightNeighbours() {
        for (int dx = -1; dx <= 1; dx++) {
            for (int dy = -1; dy <= 1; dy++) {
                StraightPages x = Desk.of("...", ".#.", "...");
                x.set(0, 1 + dx, 1 + dy, true);
                String what = dx + ", " + dy;
                due(what, 1, x.of(0, 5));
                due(what + " points", dx == 0 && dy == 0 ? 1 : 2, x.of(0, 6));
            }
        }
    }

    private void twoApart() {
        for (int dx = -2; dx <= 2; dx++) {
            for (int dy = -2; dy <= 2; dy++) {
                if (Math.max(Math.abs(dx), Math.abs(dy)) == 2) {
                    StraightPages x = Desk.of(".....", ".....", "..#..", ".....", ".....");
                    x.set(0, 2 + dx, 2 + dy, true);
                    due(dx + ", " + dy, 2, x.of(0, 5));
                }
            }
        }
    }

    private void runsOfOneRowApart() {
        for (int gap = 2; gap < 64; gap++) {
            long point = 1L << 63 - gap;
            twoSpots("a point to the left by " + gap, 1L << 63, 1L << 63 | point);
            twoSpots("a run to the left by " + gap, 1L << 63, 1L << 63 | point | point - 1L);
            twoSpots("a point to the right by " + gap, 1L, 1L | 1L << gap);
            twoSpots("a run to the right by " + gap, 1L, 1L | -1L << gap);
        }
    }

    private void twoSpots(String what, long first, long second) {
        StraightPages x = Desk.plain(64, 2, false);
        x.line(0, 0, first);
        x.line(0, 1, second);
        due(what, 2, x.of(0, 5));
    }

    private void spotIsOne(String what, String... rows) {
        StraightPages x = Desk.of(rows);
        int ink = x.of(0, 2);
        due(what, 1, x.of(0, 5));
        due(what + ": points", ink, x.of(0, 6));
        due(what + ": all are taken", ink, x.take(0, 100, 0));
        due(what + ": no ink is left", 0, x.of(0, 2));
    }

    private void spotsUpAndDown() {
        spotIsOne("down and up", "#.#", "#.#", "###");
        spotIsOne("down and up twice", "#.###.#", "#.#.#.#", "###.###");
        spotIsOne("up from below", "#...#", "#...#", "#...#", ".#.#.", "..#..");
        due("two rows up are too far", 2, Desk.of("#.#", "#..", "###").of(0, 5));
        due("two rows down are too far", 2, Desk.of("###", "#..", "#.#").of(0, 5));
    }

    private void spotsThatBranch() {
        spotIsOne("a run comes to a row in which another one waits",
            "#.###..",
            ".#...#.",
            "#.....#",
            "#.....#");
        spotIsOne("the same the other way",
            "..###.#",
            ".#...#.",
            "#.....#",
            "#.....#");
        spotIsOne("a ring", "####", "#..#", "#..#", "####");
        spotIsOne("a cross aslant", "#...#", ".#.#.", "..#..", ".#.#.", "#...#");
        due("a ring and a point in it", 2, Desk.of("#####", "#...#", "#.#.#", "#...#", "#####").of(0, 5));
    }

    private void spotsDoNotGoRoundTheSides() {
        int[] widths = {3, 63, 64};
        for (int w : widths) {
            StraightPages x = Desk.plain(w, 3, false);
            x.set(0, w - 1, 0, true);
            x.set(0, 0, 1, true);
            x.set(0, w - 1, 2, true);
            due("w " + w, 3, x.of(0, 5));
        }
    }

    private void spotsDoNotGoRoundTopAndBottom() {
        StraightPages x = Desk.plain(1, 64, false);
        x.set(0, 0, 0, true);
        x.set(0, 0, 63, true);
        due("spots", 2, x.of(0, 5));
    }

    private void speckOfJustK() {
        StraightPages x = Desk.of("###", "...", "..#");
        due("three points, k 3", 2, x.specks(0, 3, 0));
        due("three points, k 2", 1, x.specks(0, 2, 0));
    }

    private void speckJustBeyondD() {
        int[] ways = {-1, 0, 1};
        // from a block of columns and rows 7 and 8 the speck is 5 off in each way
        int[] places = {2, 7, 13};
        for (int i = 0; i < 3; i++) {
            for (int j = 0; j < 3; j++) {
                if (i != 1 || j != 1) {
                    StraightPages x = Desk.plain(16, 16, false);
                    x.lay(0, 7, 3, 2, 0x180L, 0L);
                    x.set(0, places[i], places[j], true);
                    String what = ways[i] + ", " + ways[j];
                    due("d 4 to " + what, 1, x.specks(0, 3, 4));
                    due("d 5 to " + what, 0, x.specks(0, 3, 5));
                }
            }
        }
    }

    private void speckBeyondDInOneWayAlone() {
        StraightPages x = Desk.of(
            "##......",
            "........",
            "........",
            ".......#",
            "#.......");
        due("6 off in x, 3 in y; 0 off in x, 4 in y: d 3", 2, x.specks(0, 1, 3));
        due("d 4: the lower one is near", 1, x.specks(0, 1, 4));
        due("d 5: the right one is not", 1, x.specks(0, 1, 5));
        due("d 6: it is", 0, x.specks(0, 1, 6));
    }

    private void speckBesideSmallOnes() {
        StraightPages x = Desk.of("#.#.#", ".....", "#.#.#");
        due("none has more than 1", 6, x.specks(0, 1, 20));
    }

    private void speckNearASpotAtEachSide() {
        // a pair at a side, and a point 4 off it
        int[][] sides = {{5, 0, 6, 0, 5, 4}, {5, 15, 6, 15, 5, 11}, {0, 5, 0, 6, 4, 5},
            {15, 5, 15, 6, 11, 5}, {0, 0, 0, 1, 4, 5}, {15, 15, 15, 14, 11, 10}};
        for (int[] p : sides) {
            StraightPages x = Desk.plain(16, 16, false);
            for (int i = 0; i < 6; i += 2) {
                x.set(0, p[i], p[i + 1], true);
            }
            due("d 3 of " + p[4] + ", " + p[5], 1, x.specks(0, 1, 3));
            due("d 4 of " + p[4] + ", " + p[5], 0, x.specks(0, 1, 4));
        }
    }

    private void speckDoesNotReachRoundTheSides() {
        StraightPages x = Desk.plain(64, 64, false);
        x.set(0, 63, 10, true);
        x.set(0, 62, 10, true);
        x.set(0, 0, 10, true);
        x.set(0, 0, 11, true);
        x.set(0, 20, 12, true);
        due("d 20 from the left pair", 0, x.specks(0, 1, 20));
        x.set(0, 0, 11, false);
        due("d 20 from the right pair alone", 2, x.specks(0, 1, 20));
        StraightPages high = Desk.plain(2, 64, false);
        high.set(0, 0, 0, true);
        high.set(0, 1, 0, true);
        high.set(0, 0, 63, true);
        due("from the first row to the last", 1, high.specks(0, 1, 20));
    }

    private void onePointOfASpeckIsNear() {
        StraightPages x = Desk.of("###..##");
        due("its nearest is 3 off, d 2", 1, x.specks(0, 2, 2));
        due("its nearest is 3 off, d 3", 0, x.specks(0, 2, 3));
    }

    private void boxIs(String what, StraightPages x, int... want) {
        for (int i = 0; i < 4; i++) {
            due(what + " " + i, want[i], x.box(0, i));
        }
    }

    private void contentOfCorners() {
        StraightPages x = Desk.plain(64, 64, false);
        x.set(0, 0, 63, true);
        x.set(0, 63, 0, true);
        boxIs("two corners", x, 0, 0, 63, 63);
        boxIs("full", Desk.plain(64, 64, true), 0, 0, 63, 63);
    }

    private void contentOfOnePoint() {
        boxIs("1 * 1", Desk.of("#"), 0, 0, 0, 0);
        StraightPages x = Desk.plain(64, 64, false);
        x.set(0, 63, 5, true);
        boxIs("in the last column", x, 63, 5, 63, 5);
    }

    private void stepsOfEachWidth() {
        for (int w = 1; w <= 64; w++) {
            StraightPages x = Desk.plain(w, 1, false);
            int steps = 0;
            for (int first = 0; first < w; first += 8) {
                due("w " + w + " step " + steps, 100, x.foot(0, steps));
                steps++;
            }
            due("w " + w + " no step " + steps, NONE, x.foot(0, steps));
        }
    }

    private void columnsOfEachStep() {
        for (int column = 0; column < 64; column++) {
            StraightPages x = Desk.plain(64, 1, false);
            x.set(0, column, 0, true);
            for (int step = 0; step < 8; step++) {
                due("column " + column + " step " + step,
                    column >= 8 * step && column <= 8 * step + 7 ? 0 : 100, x.foot(0, step));
            }
        }
    }

    private void footInFirstAndLastRow() {
        StraightPages x = Desk.plain(9, 64, false);
        x.set(0, 0, 0, true);
        x.set(0, 8, 63, true);
        due("first row", 0, x.foot(0, 0));
        due("last row", 63, x.foot(0, 1));
    }

    private void footIsTheLowestOfMany() {
        StraightPages x = Desk.of("########", "#......#", "...#....", "........");
        due("lowest", 2, x.foot(0, 0));
        due("full", 63, Desk.plain(8, 64, true).foot(0, 0));
    }

    private void bentFromTheFirstRowToTheLast() {
        StraightPages x = Desk.plain(64, 64, false);
        for (int step = 0; step < 7; step++) {
            x.set(0, 8 * step + step, 0, true);
        }
        x.set(0, 63, 63, true);
        due("steps that went", 7, x.bend(0));
        due("the last row", 0x8040_2010_0804_0201L, x.row(0, 63));
        due("ink", 8, x.of(0, 2));
    }

    private void bentToTheLowestFootNotTheLastRow() {
        StraightPages x = Desk.of(
            "#.......#",
            "#........",
            "........#",
            ".........");
        due("steps that went", 1, x.bend(0));
        looks("bent", x, 0, "........#", "#........", "#.......#", ".........");
    }

    private void bentWithAWidthThatIsNoStep() {
        StraightPages x = Desk.of("..........#", "#..........");
        due("steps that went", 1, x.bend(0));
        looks("bent", x, 0, "...........", "#.........#");
    }

    /** Whether the first column of two is dark by p, with so many points of h inked. */
    private static boolean isDark(int ink, int h, int p) {
        StraightPages x = Desk.plain(2, h, false);
        x.lay(0, 0, 3, ink, 1L, 0L);
        return x.shadow(0, p) == 1;
    }

    private void darkByJustSoMany() {
        due("1 of 2 by 50", true, isDark(1, 2, 50));
        due("1 of 2 by 51", false, isDark(1, 2, 51));
        due("1 of 3 by 33", true, isDark(1, 3, 33));
        due("1 of 3 by 34", false, isDark(1, 3, 34));
        due("2 of 3 by 66", true, isDark(2, 3, 66));
        due("2 of 3 by 67", false, isDark(2, 3, 67));
        due("63 of 64 by 98", true, isDark(63, 64, 98));
        due("63 of 64 by 99", false, isDark(63, 64, 99));
    }

    private void darkByOne() {
        due("1 of 64 by 1", true, isDark(1, 64, 1));
        due("1 of 64 by 2", false, isDark(1, 64, 2));
        due("0 of 64 by 1", false, isDark(0, 64, 1));
        due("0 of 1 by 1", false, isDark(0, 1, 1));
    }

    private void darkByAHundred() {
        due("64 of 64 by 100", true, isDark(64, 64, 100));
        due("63 of 64 by 100", false, isDark(63, 64, 100));
        due("1 of 1 by 100", true, isDark(1, 1, 100));
    }

    private void shadowOfAllDark() {
        StraightPages x = Desk.plain(64, 64, true);
        due("64 columns", 0, x.shadow(0, 100));
        due("ink", 4096, x.of(0, 2));
        due("list", 0, x.count(2));
        StraightPages three = Desk.of("###", "#.#");
        due("3 columns by 50", 0, three.shadow(0, 50));
        due("ink", 5, three.of(0, 2));
    }

    private void shadowOfAllButOne() {
        for (int light = 0; light < 4; light++) {
            StraightPages x = Desk.plain(4, 2, true);
            x.set(0, light, 1, false);
            due("light column " + light, 3, x.shadow(0, 51));
            due("ink, light column " + light, 1, x.of(0, 2));
            due("its ink, light column " + light, 1, x.at(0, light, 0));
        }
    }

    private void shadowOfNoneDark() {
        StraightPages x = Desk.of(".##.", ".##.");
        due("the sides are light", 0, x.shadow(0, 1));
        looks("all stays", x, 0, ".##.", ".##.");
        due("no ink", 0, Desk.plain(64, 64, false).shadow(0, 1));
    }

    private void shadowStopsAtTheFirstLightColumn() {
        StraightPages x = Desk.of("##.#.#", "##.#.#");
        due("columns", 3, x.shadow(0, 100));
        looks("the middle stays", x, 0, "...#..", "...#..");
    }

    private void shadowOfOneColumn() {
        StraightPages x = Desk.of("#", "#");
        due("all are dark", 0, x.shadow(0, 100));
        looks("it stays", x, 0, "#", "#");
    }

    private void eachKindIsAChange() {
        Call[] kinds = {
            y -> y.across(0, 6), y -> y.upright(0, 5), y -> one(y.turn(0, 5, 5)), y -> y.bend(0),
            y -> y.take(0, 1, 0), y -> y.shadow(0, 100), y -> one(y.cut(0, 1)),
            y -> one(y.set(0, 3, 1, true)), y -> y.line(0, 1, 9L), y -> y.part(0, 1, 8, 9)};
        for (int i = 0; i < kinds.length; i++) {
            String[] rows = {"#..#.....", "#........", "#....#..#", "#........"};
            StraightPages x = Desk.of(rows);
            hold("kind " + i + " is not refused", kinds[i].on(x) >= 0L);
            due("kind " + i, 1, x.count(1));
            hold("kind " + i + " alters", !Desk.picture(x, 0).equals(String.join("/", rows) + "/"));
            due("kind " + i + ", back", 0, x.back());
            looks("kind " + i + ", back", x, 0, rows);
            due("kind " + i + ", back", 1, x.count(0));
            due("kind " + i + ", no more", 0, x.count(1));
        }
    }

    private void changesThatAlterNothing() {
        // part always alters: its page is narrower then
        Call[] kinds = {
            y -> y.across(0, 0), y -> y.upright(0, 0), y -> one(y.turn(0, 0, 0)), y -> y.bend(0),
            y -> y.take(0, 1, 20), y -> y.shadow(0, 50), y -> one(y.cut(0, 0)),
            y -> one(y.set(0, 0, 0, true)), y -> y.line(0, 0, 3L)};
        for (int i = 0; i < kinds.length; i++) {
            StraightPages x = Desk.of("##", "#.");
            x.set(0, 1, 1, true);
            x.set(0, 1, 1, false);
            kinds[i].on(x);
            looks("kind " + i + " alters nothing", x, 0, "##", "#.");
            due("kind " + i, 3, x.count(1));
            due("kind " + i + ", back", 0, x.back());
            looks("kind " + i + ", back", x, 0, "##", "#.");
            x.back();
            looks("the one ahead of kind " + i, x, 0, "##", "##");
        }
    }

    private void whatIsNoChange() {
        StraightPages x = Desk.of("##", "#.");
        x.set(0, 1, 1, true);
        x.page(2, 2);
        x.copy(0);
        x.at(0, 0, 0);
        x.row(0, 0);
        x.of(0, 5);
        x.count(0);
        x.unlike(0, 1);
        x.sharp(0, 5);
        x.angle(0);
        x.foot(0, 0);
        x.specks(0, 1, 1);
        x.box(0, 0);
        x.spans(0, 0, 1);
        x.told(0);
        due("changes", 1, x.count(1));
        due("back", 0, x.back());
        due("back itself is none", 0, x.count(1));
        due("back", NONE, x.back());
        looks("the change alone", x, 0, "##", "#.");
    }

    private void tenButNotTheEleventh() {
        for (int changes = 9; changes <= 22; changes++) {
            StraightPages x = Desk.plain(8, 1, false);
            for (int i = 1; i <= changes; i++) {
                x.line(0, 0, i);
            }
            int kept = Math.min(changes, 10);
            due(changes + " changes", kept, x.count(1));
            for (int i = 1; i <= kept; i++) {
                due(changes + " changes, back " + i, 0, x.back());
                due(changes + " changes, row behind back " + i, changes - i, x.row(0, 0));
                due(changes + " changes, left behind back " + i, kept - i, x.count(1));
            }
            due(changes + " changes, no more", NONE, x.back());
            due(changes + " changes, row at last", changes - kept, x.row(0, 0));
        }
    }

    private void tenOfAllPages() {
        StraightPages x = new StraightPages();
        for (int page = 0; page < 8; page++) {
            x.page(1, 1);
        }
        for (int i = 0; i < 12; i++) {
            x.set(i % 8, 0, 0, i < 8);
        }
        due("ten, not ten of each", 10, x.count(1));
        for (int i = 11; i >= 2; i--) {
            due("page of change " + i, i % 8, x.back());
            due("ink ahead of change " + i, i < 8 ? 0 : 1, x.at(i % 8, 0, 0));
        }
        due("no more", NONE, x.back());
        due("too old", 1, x.at(0, 0, 0));
        due("too old", 1, x.at(1, 0, 0));
    }

    private void latestFirst() {
        StraightPages x = Desk.of("..");
        x.page(2, 1);
        x.set(0, 0, 0, true);
        x.set(1, 0, 0, true);
        x.set(0, 1, 0, true);
        due("the latest", 0, x.back());
        looks("the latest", x, 0, "#.");
        looks("the other page", x, 1, "#.");
        due("the middle one", 1, x.back());
        looks("the middle one", x, 1, "..");
        due("the first", 0, x.back());
        looks("the first", x, 0, "..");
    }

    private void listInOrder() {
        StraightPages x = Desk.of("..#..#", "#....#", "...#..");
        x.take(0, 2, 0);
        lists("take", x, 2, 0, 5, 0, 0, 1, 5, 1, 3, 2);
        StraightPages shade = Desk.of("##.#", "##.#");
        shade.shadow(0, 100);
        lists("shadow", shade, 0, 0, 1, 0, 3, 0, 0, 1, 1, 1, 3, 1);
    }

    private void listOfTheLatestOne() {
        StraightPages x = Desk.of("#..", "...", "..#");
        x.page(3, 1);
        x.line(1, 0, 4L);
        x.take(0, 1, 0);
        lists("take", x, 0, 0, 2, 2);
        x.shadow(1, 100);
        lists("shadow of another page", x, 2, 0);
        x.back();
        lists("back leaves it", x, 2, 0);
        x.take(1, 1, 0);
        lists("take again", x, 2, 0);
        x.back();
        x.back();
        x.take(0, 1, 0);
        lists("take of the first page", x, 0, 0, 2, 2);
    }

    private void listOfTheLatestThatTookNone() {
        StraightPages x = Desk.of("#.#");
        x.take(0, 1, 0);
        due("two", 2, x.count(2));
        due("none", 0, x.take(0, 1, 0));
        lists("take of none", x);
        x.back();
        x.back();
        due("two columns", 2, x.shadow(0, 100));
        due("two", 2, x.count(2));
        due("no columns", 0, x.shadow(0, 100));
        lists("shadow of none", x);
    }

    private void listAsPointsWereThen() {
        StraightPages x = Desk.of(".....", "...##", "...##", "#....");
        x.take(0, 1, 0);
        x.cut(0, 0);
        x.across(0, 16);
        lists("the page is smaller now", x, 0, 3);
        x.part(0, 1, 1, 9);
        x.lay(0, 0, 3, 2, -1L, 0L);
        lists("and new", x, 0, 3);
    }

    private void rowOfTheLatestSpans() {
        StraightPages x = Desk.of("#.##", "....");
        x.spans(0, 0, 1);
        tells("columns", x, 0, 0, 2, 3);
        x.spans(0, 1, 1);
        tells("lines", x, 0, 0);
        x.page(1, 1);
        x.spans(1, 0, 1);
        tells("none", x);
    }

    /** Calls that are not refused on the busy desk, of all kinds but take, shadow and spans. */
    private static Call[] othersOfTheFace() {
        return new Call[] {
            x -> x.page(2, 2), x -> x.copy(0), x -> one(x.set(0, 0, 0, false)), x -> x.line(0, 0, 5L),
            x -> x.lay(0, 0, 3, 9, 77L, 5L), x -> x.lay(0, 0, 4, 0, 0L, 0L), x -> x.at(0, 0, 0),
            x -> x.row(0, 0), x -> x.of(0, 5), x -> x.count(0), x -> x.unlike(0, 1), x -> x.across(0, 9),
            x -> x.upright(0, 9), x -> one(x.turn(0, 9, 9)), x -> x.sharp(0, 9), x -> x.angle(0),
            x -> x.bend(0), x -> x.foot(0, 0), x -> x.specks(0, 9, 1), x -> x.listed(0, 0),
            x -> x.box(0, 0), x -> one(x.cut(0, 0)), x -> x.part(0, 1, 4, 64), x -> x.back(),
            x -> x.told(0)};
    }

    private static String listAndRow(StraightPages x) {
        return Desk.state(x).replaceAll("(?s).* list", "list");
    }

    private void otherCallsLeaveListAndRow() {
        Call[] others = othersOfTheFace();
        for (int i = 0; i < others.length; i++) {
            StraightPages x = Desk.busy();
            String was = listAndRow(x);
            others[i].on(x);
            String is = listAndRow(x);
            hold("call " + i + " leaves " + is + ", due is " + was, is.equals(was));
        }
    }

    private void listStaysInSpans() {
        StraightPages x = Desk.busy();
        int points = x.count(2);
        hold("there is a list", points > 0);
        x.spans(0, 1, 1);
        due("points", points, x.count(2));
    }

    private void rowStaysInTakeAndShadow() {
        StraightPages x = Desk.busy();
        int numbers = x.count(3);
        hold("there is a row", numbers > 0);
        x.take(0, 100, 0);
        x.shadow(1, 1);
        due("numbers", numbers, x.count(3));
    }

    private void refusedPages() {
        refuses("page", x -> x.page(0, 0));
        refuses("copy", x -> x.copy(3));
        refusesByFalse("set", x -> one(x.set(0, 0, 7, true)));
        refuses("line", x -> x.line(3, 0, -1L));
        refuses("lay", x -> x.lay(0, 0, 5, 3, -1L, 0L));
        leaves("lay of less than none", -2, Desk::busy, x -> x.lay(0, 0, 0, -1, -1L, 0L));
        leaves("unlike", -2, Desk::busy, x -> x.unlike(0, 3));
    }

    private void refusedShears() {
        refuses("across", x -> x.across(0, 17));
        refuses("upright", x -> x.upright(0, 17));
        refusesByFalse("turn", x -> one(x.turn(0, 17, 0)));
        refuses("sharp", x -> x.sharp(0, 13));
        refuses("angle", x -> x.angle(3));
    }

    private void refusedMending() {
        refuses("bend", x -> x.bend(3));
        refuses("foot", x -> x.foot(0, 8));
        refuses("specks", x -> x.specks(0, 0, 0));
        refuses("take", x -> x.take(0, 0, 0));
        refuses("shadow", x -> x.shadow(0, 0));
    }

    private void refusedContent() {
        refuses("box", x -> x.box(0, 4));
        refusesByFalse("cut", x -> one(x.cut(0, 21)));
        refuses("spans", x -> x.spans(0, 2, 1));
        refuses("part", x -> x.part(0, 0, 1, 9));
        leaves("back", NONE, () -> Desk.of("#."), x -> x.back());
    }

    private void refusedAsks() {
        refuses("at", x -> x.at(0, -1, 0));
        refuses("of", x -> x.of(0, 7));
        refuses("count", x -> x.count(4));
        leaves("row", 7, Desk::busy, x -> refusedAsk(() -> x.row(3, 0)));
        leaves("listed", 7, Desk::busy, x -> refusedAsk(() -> x.listed(-1, 0)));
        leaves("told", 7, Desk::busy, x -> refusedAsk(() -> x.told(-1)));
    }

    private long refusedAsk(Checks.Call call) {
        throwsNoSuchElement("none such", call);
        return 7L;
    }
}
