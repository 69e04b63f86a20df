/** Promises 1 to 28 of the document: ordinary inputs, named edges and wrong inputs. */
public final class PromisesTest {
    private static final int NONE = StraightPages.NONE;
    private static final int LEAST = Integer.MIN_VALUE;
    private static final int MOST = Integer.MAX_VALUE;
    private static final Checks CHECKS = new Checks("PromisesTest");

    public static void main(String[] args) {
        newObject();
        page();
        copy();
        set();
        line();
        lay();
        layKeepsItsOrderOfRefusals();
        at();
        row();
        of();
        count();
        unlike();
        across();
        upright();
        turn();
        sharp();
        angle();
        bend();
        foot();
        specks();
        take();
        shadow();
        listed();
        box();
        cut();
        spans();
        part();
        partTakenBack();
        back();
        backOfEveryKind();
        told();
        refusedCallsChangeNothing();
        CHECKS.end();
    }

    private static void due(String what, long want, long got) {
        CHECKS.due(what, want, got);
    }

    private static void due(String what, boolean want, boolean got) {
        CHECKS.due(what, want, got);
    }

    private static void looks(String what, StraightPages x, int page, String... rows) {
        String want = String.join("/", rows) + "/";
        String got = Desk.picture(x, page);
        CHECKS.hold(what + ": page " + page + " is " + got + ", due is " + want, got.equals(want));
    }

    private static void newObject() {
        StraightPages x = new StraightPages();
        due("1 NONE", -1, StraightPages.NONE);
        for (int what = 0; what < 4; what++) {
            due("1 count(" + what + ")", 0, x.count(what));
        }
        due("1 of", NONE, x.of(0, 0));
        due("1 back", NONE, x.back());
        CHECKS.throwsNoSuchElement("1 listed", () -> x.listed(0, 0));
        CHECKS.throwsNoSuchElement("1 told", () -> x.told(0));
    }

    private static void page() {
        StraightPages x = new StraightPages();
        int[][] wrong = {{0, 1}, {1, 0}, {65, 1}, {1, 65}, {-1, 5}, {5, -1}, {LEAST, 5}, {5, MOST}};
        for (int[] size : wrong) {
            due("2 page " + size[0] + " " + size[1], NONE, x.page(size[0], size[1]));
        }
        due("2 smallest", 0, x.page(1, 1));
        due("2 largest", 1, x.page(64, 64));
        due("2 w", 64, x.of(1, 0));
        due("2 h", 64, x.of(1, 1));
        due("2 no ink", 0, x.of(1, 2));
        due("2 no change", 0, x.count(1));
        for (int i = 2; i < 8; i++) {
            due("2 number", i, x.page(i, 9));
        }
        due("2 eight", NONE, x.page(3, 3));
        due("2 pages", 8, x.count(0));
        StraightPages y = Desk.of("###", "###");
        y.part(0, 1, 1, 9);
        y.back();
        due("2 in the place of one that is gone", 1, y.page(2, 2));
        looks("2 without the ink of one that is gone", y, 1, "..", "..");
    }

    private static void copy() {
        StraightPages x = Desk.of("#..", ".##");
        x.set(0, 1, 0, true);
        due("3 copy", 1, x.copy(0));
        looks("3 copy", x, 1, "##.", ".##");
        due("3 no change", 1, x.count(1));
        x.set(1, 0, 0, false);
        looks("3 the first one stays", x, 0, "##.", ".##");
        looks("3 the copy changes", x, 1, ".#.", ".##");
        due("3 none such", NONE, x.copy(2));
        due("3 none such", NONE, x.copy(-1));
        due("3 none such", NONE, x.copy(MOST));
        for (int i = 2; i < 8; i++) {
            due("3 number", i, x.copy(i - 1));
        }
        due("3 eight", NONE, x.copy(0));
        due("3 pages", 8, x.count(0));
    }

    private static void set() {
        StraightPages x = Desk.of("...", "...");
        due("4 set", true, x.set(0, 2, 1, true));
        looks("4 set", x, 0, "...", "..#");
        due("4 set again", true, x.set(0, 2, 1, true));
        due("4 one that alters nothing is a change", 2, x.count(1));
        due("4 set off", true, x.set(0, 2, 1, false));
        looks("4 set off", x, 0, "...", "...");
        int[][] wrong = {{1, 0, 0}, {-1, 0, 0}, {0, 3, 0}, {0, -1, 0}, {0, 0, 2}, {0, 0, -1},
            {LEAST, 0, 0}, {0, MOST, 0}, {0, 0, LEAST}, {0, 64, 0}};
        for (int[] p : wrong) {
            due("4 none such", false, x.set(p[0], p[1], p[2], true));
        }
        due("4 refused is no change", 3, x.count(1));
        x.page(64, 64);
        due("4 far corner", true, x.set(1, 63, 63, true));
        due("4 far corner", Long.MIN_VALUE, x.row(1, 63));
    }

    private static void line() {
        StraightPages x = Desk.of("....", "####");
        due("5 line", 2, x.line(0, 0, 9L));
        looks("5 line", x, 0, "#..#", "####");
        due("5 those from w on", 4, x.line(0, 0, -1L));
        due("5 those from w on", 15, x.row(0, 0));
        due("5 the old ink goes", 1, x.line(0, 1, 2L));
        looks("5 the old ink goes", x, 0, "####", ".#..");
        due("5 changes", 3, x.count(1));
        due("5 row", NONE, x.line(0, 2, 1L));
        due("5 row", NONE, x.line(0, -1, 1L));
        due("5 page", NONE, x.line(1, 0, 1L));
        due("5 page", NONE, x.line(-1, 0, 1L));
        due("5 refused is no change", 3, x.count(1));
        x.page(64, 1);
        due("5 64", 64, x.line(1, 0, -1L));
        due("5 64", -1L, x.row(1, 0));
        x.page(63, 1);
        due("5 63", 63, x.line(2, 0, -1L));
        due("5 63", Long.MAX_VALUE, x.row(2, 0));
    }

    private static void lay() {
        StraightPages x = new StraightPages();
        x.page(64, 4);
        due("6 bytes", 4, x.lay(0, 0, 0, 4, 254L, 1L));
        long[] bytes = {254L, 255L, 0L, 1L};
        due("6 shorts", 1, x.lay(0, 3, 1, 64, -2L, 1L));
        due("6 shorts", 0xFFFEL, x.row(0, 3));
        x.lay(0, 0, 0, 4, 254L, 1L);
        for (int y = 0; y < 4; y++) {
            due("6 byte " + y, bytes[y], x.row(0, y));
        }
        due("6 ints", 2, x.lay(0, 1, 2, 2, 0x7_FFFF_FFFFL, 1L));
        due("6 int", 254L, x.row(0, 0));
        due("6 int", 0xFFFF_FFFFL, x.row(0, 1));
        due("6 int", 0L, x.row(0, 2));
        due("6 int", 1L, x.row(0, 3));
        due("6 longs", 2, x.lay(0, 2, 3, 3, Long.MAX_VALUE, 1L));
        due("6 long", Long.MAX_VALUE, x.row(0, 2));
        due("6 a long goes round", Long.MIN_VALUE, x.row(0, 3));
        x.set(0, 0, 0, true);
        due("6 no entries", 0, x.lay(0, 0, 3, 0, -1L, 0L));
        due("6 changes are gone", 0, x.count(1));
        due("6 back", NONE, x.back());
        due("6 nothing became", 255L, x.row(0, 0));
        x.page(5, 2);
        x.set(0, 0, 0, true);
        due("6 missing", 0, x.lay(1, 1, 4, 7, -1L, 0L));
        due("6 changes of any page are gone", 0, x.count(1));
        due("6 missing lays nothing", 0, x.of(1, 2));
        due("6 missing one, n below 0", 0, x.lay(1, 0, 4, -9, 0L, 0L));
        due("6 missing one, n least", 0, x.lay(1, 0, 4, LEAST, 0L, 0L));
        due("6 narrow", 2, x.lay(1, 0, 0, 2, -1L, 0L));
        due("6 narrow", 31L, x.row(1, 1));
        due("6 not a change", 0, x.count(1));
    }

    private static void layKeepsItsOrderOfRefusals() {
        StraightPages x = Desk.of("##", "..");
        x.set(0, 0, 1, true);
        due("6 page", NONE, x.lay(1, 0, 0, 1, 0L, 0L));
        due("6 page", NONE, x.lay(-1, 0, 0, -1, 0L, 0L));
        due("6 row", NONE, x.lay(0, 2, 0, 1, 0L, 0L));
        due("6 row of a missing one", NONE, x.lay(0, 2, 4, 1, 0L, 0L));
        due("6 row before length", NONE, x.lay(0, -1, 0, -1, 0L, 0L));
        due("6 kind", NONE, x.lay(0, 0, 5, 1, 0L, 0L));
        due("6 kind before length", NONE, x.lay(0, 0, -1, -1, 0L, 0L));
        due("6 n", NONE, x.lay(0, 0, 0, 65, 0L, 0L));
        due("6 n of a missing one", NONE, x.lay(0, 0, 4, 65, 0L, 0L));
        due("6 n", NONE, x.lay(0, 0, 3, MOST, 0L, 0L));
        for (int kind = 0; kind < 4; kind++) {
            due("6 length, kind " + kind, -2, x.lay(0, 0, kind, -1, 0L, 0L));
        }
        due("6 length", -2, x.lay(0, 1, 3, LEAST, 0L, 0L));
        due("6 the change stays", 1, x.count(1));
        looks("6 refused", x, 0, "##", "#.");
    }

    private static void at() {
        StraightPages x = Desk.of("#.", ".#", "..");
        due("7 ink", 1, x.at(0, 1, 1));
        due("7 none", 0, x.at(0, 1, 2));
        int[][] wrong = {{1, 0, 0}, {-1, 0, 0}, {0, 2, 0}, {0, -1, 0}, {0, 0, 3}, {0, 0, -1},
            {MOST, 0, 0}, {0, LEAST, 0}, {0, 0, MOST}};
        for (int[] p : wrong) {
            due("7 none such", NONE, x.at(p[0], p[1], p[2]));
        }
        x.page(64, 64);
        x.set(1, 63, 63, true);
        due("7 far corner", 1, x.at(1, 63, 63));
        due("7 beside it", 0, x.at(1, 62, 63));
    }

    private static void row() {
        StraightPages x = Desk.of("#.#", "...");
        due("8 row", 5, x.row(0, 0));
        due("8 row", 0, x.row(0, 1));
        CHECKS.throwsNoSuchElement("8 row 2", () -> x.row(0, 2));
        CHECKS.throwsNoSuchElement("8 row -1", () -> x.row(0, -1));
        CHECKS.throwsNoSuchElement("8 page 1", () -> x.row(1, 0));
        CHECKS.throwsNoSuchElement("8 page -1", () -> x.row(-1, 0));
        CHECKS.throwsNoSuchElement("8 far", () -> x.row(MOST, LEAST));
    }

    private static void of() {
        StraightPages x = Desk.of(
            "#....",
            ".#..#",
            "....#",
            ".....");
        int[] want = {5, 4, 4, 3, 3, 2, 2};
        for (int what = 0; what < want.length; what++) {
            due("9 of " + what, want[what], x.of(0, what));
        }
        due("9 what", NONE, x.of(0, 7));
        due("9 what", NONE, x.of(0, -1));
        due("9 what", NONE, x.of(0, LEAST));
        due("9 page", NONE, x.of(1, 0));
        due("9 page", NONE, x.of(-1, 2));
        x.page(3, 3);
        for (int what = 2; what < 7; what++) {
            due("9 empty " + what, 0, x.of(1, what));
        }
        spotsOfManyForms();
    }

    private static void spotsOfManyForms() {
        StraightPages x = Desk.of(
            "#.#.#",
            ".....",
            "#.#.#",
            "#...#",
            ".###.");
        due("9 apart", 5, x.of(0, 5));
        due("9 largest", 7, x.of(0, 6));
        int winding = Desk.add(x,
            "#.###.###",
            "#.#.#.#.#",
            "#.#.#.#.#",
            "###.###.#");
        due("9 winding", 1, x.of(winding, 5));
        due("9 winding", 24, x.of(winding, 6));
        int rising = Desk.add(x,
            "..#..#.",
            "##.##.#",
            ".......",
            "...#...");
        due("9 runs of one row joined from above", 7, x.of(rising, 6));
        due("9 and all of them taken", 8, x.take(rising, 7, 0));
        due("9 and all of them taken", 0, x.of(rising, 2));
        int falling = Desk.add(x, "..#", ".#.", "#..", ".#.", "..#");
        due("9 falling", 1, x.of(falling, 5));
        x.page(64, 64);
        int full = x.count(0) - 1;
        x.lay(full, 0, 3, 64, -1L, 0L);
        due("9 full", 1, x.of(full, 5));
        due("9 full", 4096, x.of(full, 6));
        for (int y = 0; y < 64; y++) {
            x.line(full, y, y % 2 == 0 ? 0x5555_5555_5555_5555L : 0L);
        }
        due("9 dots", 1024, x.of(full, 5));
        due("9 dots", 1, x.of(full, 6));
        for (int y = 0; y < 64; y++) {
            x.line(full, y, y % 2 == 0 ? 0x5555_5555_5555_5555L : 0xAAAA_AAAA_AAAA_AAAAL);
        }
        due("9 chequers", 1, x.of(full, 5));
        due("9 chequers", 2048, x.of(full, 6));
    }

    private static void count() {
        StraightPages x = Desk.of("#.#", "...");
        due("10 pages", 1, x.count(0));
        x.take(0, 1, 0);
        due("10 changes", 1, x.count(1));
        due("10 list", 2, x.count(2));
        x.back();
        x.spans(0, 0, 1);
        due("10 row", 4, x.count(3));
        due("10 changes", 0, x.count(1));
        due("10 the list stays", 2, x.count(2));
        due("10 what", NONE, x.count(4));
        due("10 what", NONE, x.count(-1));
        due("10 what", NONE, x.count(LEAST));
        for (int i = 0; i < 12; i++) {
            x.set(0, 0, 0, true);
        }
        due("10 at most ten", 10, x.count(1));
    }

    private static void unlike() {
        StraightPages x = Desk.of("##", "..", "#.");
        x.copy(0);
        due("11 alike", NONE, x.unlike(0, 1));
        due("11 itself", NONE, x.unlike(0, 0));
        x.set(1, 1, 2, true);
        due("11 last row", 2, x.unlike(0, 1));
        x.set(0, 0, 1, true);
        due("11 the first one of two", 1, x.unlike(1, 0));
        x.set(1, 0, 0, false);
        due("11 row 0", 0, x.unlike(0, 1));
        Desk.add(x, "##.", "...", "#..");
        Desk.add(x, "##", "..");
        due("11 w", 100, x.unlike(0, 2));
        due("11 h", 100, x.unlike(3, 0));
        x.page(64, 64);
        x.copy(4);
        due("11 the largest ones", NONE, x.unlike(4, 5));
        x.set(5, 63, 63, true);
        due("11 the last row of the largest ones", 63, x.unlike(4, 5));
        due("11 none such", -2, x.unlike(0, 6));
        due("11 none such", -2, x.unlike(6, 0));
        due("11 none such", -2, x.unlike(-1, 0));
        due("11 none such", -2, x.unlike(9, 9));
    }

    private static void across() {
        StraightPages x = Desk.of("#.", "#.", "#.", "##");
        due("12 down to the right", 3, x.across(0, 6));
        looks("12 by 6: 0 0 0 1", x, 0, "#..", "#..", "#..", ".##");
        x.back();
        due("12 down to the left", 4, x.across(0, -6));
        looks("12 by -6: 0 -1 -1 -2", x, 0, "..#.", ".#..", ".#..", "##..");
        due("12 a change", 1, x.count(1));
        x.back();
        due("12 by 0", 2, x.across(0, 0));
        due("12 by 0 is a change", 1, x.count(1));
        due("12 s", NONE, x.across(0, 17));
        due("12 s", NONE, x.across(0, -17));
        due("12 s", NONE, x.across(0, LEAST));
        due("12 page", NONE, x.across(1, 0));
        due("12 page", NONE, x.across(-1, 0));
        due("12 refused is no change", 1, x.count(1));
        x.page(33, 32);
        x.line(1, 31, 1L << 32);
        due("12 just wide enough", 64, x.across(1, 16));
        due("12 the far corner", Long.MIN_VALUE, x.row(1, 31));
        x.page(34, 32);
        due("12 too wide", NONE, x.across(2, 16));
        due("12 too wide", NONE, x.across(2, -16));
        due("12 too wide", 34, x.of(2, 0));
        due("12 one narrower slide", 63, x.across(2, 15));
        x.page(64, 1);
        due("12 one row goes nowhere", 64, x.across(3, -16));
    }

    private static void upright() {
        StraightPages x = Desk.of("####", "#...");
        due("13 down to the right", 3, x.upright(0, 6));
        looks("13 by 6: 0 0 0 1", x, 0, "###.", "#..#", "....");
        x.back();
        due("13 up to the right", 4, x.upright(0, -6));
        looks("13 by -6: 2 1 1 0", x, 0, "...#", ".##.", "#...", "#...");
        due("13 a change", 1, x.count(1));
        x.back();
        due("13 by 0", 2, x.upright(0, 0));
        due("13 by 0 is a change", 1, x.count(1));
        due("13 s", NONE, x.upright(0, 17));
        due("13 s", NONE, x.upright(0, -17));
        due("13 s", NONE, x.upright(0, MOST));
        due("13 page", NONE, x.upright(1, 0));
        due("13 page", NONE, x.upright(-1, 0));
        due("13 refused is no change", 1, x.count(1));
        x.page(32, 33);
        x.set(1, 31, 32, true);
        due("13 just high enough", 64, x.upright(1, 16));
        due("13 the far corner", 1L << 31, x.row(1, 63));
        x.page(32, 34);
        due("13 too high", NONE, x.upright(2, 16));
        due("13 too high", NONE, x.upright(2, -16));
        due("13 too high", 34, x.of(2, 1));
        x.page(1, 64);
        due("13 one column goes nowhere", 64, x.upright(3, 16));
    }

    private static void turn() {
        StraightPages x = Desk.of("##.", "#..", "..#");
        x.copy(0);
        due("14 turn", true, x.turn(0, 8, -7));
        due("14 one change", 1, x.count(1));
        x.across(1, 8);
        x.upright(1, -7);
        x.across(1, 8);
        due("14 as the three shears", NONE, x.unlike(0, 1));
        due("14 ink stays", 4, x.of(0, 2));
        for (int i = 0; i < 4; i++) {
            x.back();
        }
        looks("14 taken back at once", x, 0, "##.", "#..", "..#");
        due("14 by 0", true, x.turn(0, 0, 0));
        int[][] wrong = {{0, 17, 0}, {0, -17, 0}, {0, 0, 17}, {0, 0, -17}, {1, 0, LEAST}, {2, 0, 0},
            {-1, 0, 0}};
        for (int[] w : wrong) {
            due("14 wrong", false, x.turn(w[0], w[1], w[2]));
        }
        due("14 refused is no change", 1, x.count(1));
        x.page(34, 32);
        due("14 too wide at first", false, x.turn(2, 16, 0));
        x.page(32, 34);
        due("14 too high", false, x.turn(3, 0, 16));
        x.page(30, 17);
        due("14 too wide at last", false, x.turn(4, 16, 16));
        due("14 and stays", 30, x.of(4, 0));
        due("14 all three fit", true, x.turn(4, 16, 0));
        due("14 all three fit", 62, x.of(4, 0));
        x.page(34, 16);
        due("14 just wide enough at last", true, x.turn(5, 16, 0));
        due("14 just wide enough at last", 64, x.of(5, 0));
        x.page(17, 48);
        due("14 just high enough", true, x.turn(6, 0, 16));
        due("14 just high enough", 64, x.of(6, 1));
        x.page(64, 1);
        due("14 just wide enough all along", true, x.turn(7, 16, 0));
    }

    private static void sharp() {
        StraightPages x = Desk.of("##..", "..##");
        due("15 straight", 8, x.sharp(0, 0));
        due("15 by 8: 0 0 1 1", 8, x.sharp(0, 8));
        due("15 by -8: 2 1 1 0", 8, x.sharp(0, -8));
        due("15 by -5: 1 0 0 0", 10, x.sharp(0, -5));
        due("15 s", NONE, x.sharp(0, 13));
        due("15 s", NONE, x.sharp(0, -13));
        due("15 s", NONE, x.sharp(0, LEAST));
        due("15 page", NONE, x.sharp(1, 0));
        due("15 page", NONE, x.sharp(-1, 0));
        due("15 no change", 0, x.count(1));
        x.page(64, 64);
        due("15 no ink", 0, x.sharp(1, 3));
        x.lay(1, 0, 3, 64, -1L, 0L);
        due("15 full", 64 * 64 * 64, x.sharp(1, 0));
        due("15 too high, all the same", fullSharpness(12), x.sharp(1, 12));
        due("15 too high, all the same", fullSharpness(-12), x.sharp(1, -12));
    }

    private static long fullSharpness(int s) {
        int[] ink = new int[256];
        for (int x = 0; x < 64; x++) {
            for (int y = 0; y < 64; y++) {
                ink[100 + y + Math.floorDiv(s * x, 16)]++;
            }
        }
        long sum = 0;
        for (int n : ink) {
            sum += (long) n * n;
        }
        return sum;
    }

    private static void angle() {
        StraightPages x = Desk.of("##..", "..##");
        due("16 the sharpest of the least size", -1, x.angle(0));
        Desk.add(x, "..##", "##..");
        due("16 the other way", 8, x.angle(1));
        Desk.add(x, "####", "....");
        due("16 one row", 100, x.angle(2));
        Desk.add(x, "..", "..");
        due("16 no ink", 100, x.angle(3));
        Desk.add(x, "#.", "#.");
        due("16 all alike: 0", 0, x.angle(4));
        Desk.add(x, "#..", ".#.", "#..");
        due("16 below 0 where that is more", -1, x.angle(5));
        x.page(17, 3);
        x.set(6, 0, 0, true);
        x.set(6, 16, 1, true);
        due("16 below 0 where that alone is more", -1, x.angle(6));
        due("16 by 12 alone", 12, angleOfPair(4, 0, 0, 3));
        due("16 by -12 alone", -12, angleOfPair(0, 0, 11, 9));
        due("16 page", NONE, x.angle(8));
        due("16 page", NONE, x.angle(-1));
        due("16 of 1 and -1 alike: the one above 0", 1, angleOfTwins());
    }

    private static int angleOfPair(int x0, int y0, int x1, int y1) {
        StraightPages x = new StraightPages();
        x.page(16, 16);
        x.set(0, x0, y0, true);
        x.set(0, x1, y1, true);
        return x.angle(0);
    }

    /** By 1 two points come into one row, by -1 two others; by 0 none: answers the angle. */
    private static int angleOfTwins() {
        StraightPages x = new StraightPages();
        x.page(17, 32);
        x.set(0, 16, 0, true);
        x.set(0, 15, 1, true);
        x.set(0, 0, 30, true);
        x.set(0, 1, 31, true);
        due("16 by 0", 4, x.sharp(0, 0));
        due("16 by 1", 6, x.sharp(0, 1));
        due("16 by -1", 6, x.sharp(0, -1));
        return x.angle(0);
    }

    private static void bend() {
        StraightPages x = Desk.of(
            "#.......#.......#",
            ".#..............#",
            ".........#.......",
            ".................");
        due("17 bend", 2, x.bend(0));
        looks("17 bend", x, 0,
            "........#........",
            "#...............#",
            ".#.......#......#",
            ".................");
        due("17 again", 0, x.bend(0));
        due("17 changes", 2, x.count(1));
        x.back();
        due("17 back", 0, x.back());
        due("17 taken back", 1, x.at(0, 0, 0));
        x.page(20, 5);
        due("17 no ink", 0, x.bend(1));
        due("17 no ink is a change", 1, x.count(1));
        x.set(1, 19, 1, true);
        due("17 one step", 0, x.bend(1));
        due("17 it stays", 1, x.at(1, 19, 1));
        due("17 page", NONE, x.bend(2));
        due("17 page", NONE, x.bend(-1));
        x.page(64, 64);
        x.set(2, 63, 0, true);
        x.set(2, 55, 63, true);
        x.set(2, 0, 9, true);
        due("17 far", 2, x.bend(2));
        due("17 far", 1, x.at(2, 0, 63));
        due("17 far", 1, x.at(2, 63, 63));
        due("17 far", 3, x.of(2, 2));
    }

    private static void foot() {
        StraightPages x = Desk.of(
            "#.......#........",
            ".......#.........",
            "........#.......#",
            ".................");
        due("18 step 0", 1, x.foot(0, 0));
        due("18 step 1", 2, x.foot(0, 1));
        due("18 the last one with one column", 2, x.foot(0, 2));
        due("18 step", NONE, x.foot(0, 3));
        due("18 step", NONE, x.foot(0, -1));
        due("18 step", NONE, x.foot(0, LEAST));
        x.page(16, 2);
        due("18 no ink", 100, x.foot(1, 1));
        due("18 two steps alone", NONE, x.foot(1, 2));
        due("18 page", NONE, x.foot(2, 0));
        due("18 page", NONE, x.foot(-1, 0));
        x.page(64, 64);
        x.set(2, 63, 63, true);
        due("18 step 7", 63, x.foot(2, 7));
        due("18 step 8", NONE, x.foot(2, 8));
    }

    private static StraightPages dirty() {
        return Desk.of(
            "###.......",
            "###..#....",
            "..........",
            "....##...#",
            "..........",
            ".....#....");
    }

    private static void specks() {
        StraightPages x = dirty();
        due("19 all but the block", 4, x.specks(0, 2, 0));
        due("19 k 1", 3, x.specks(0, 1, 0));
        due("19 k 6", 5, x.specks(0, 6, 0));
        due("19 d 2: the two at 4, 3 go", 3, x.specks(0, 2, 2));
        due("19 d 3: and the one at 5, 1", 2, x.specks(0, 2, 3));
        due("19 d 4: and the one at 5, 5", 1, x.specks(0, 2, 4));
        due("19 d 6", 1, x.specks(0, 2, 6));
        due("19 d 7", 0, x.specks(0, 2, 7));
        due("19 d 20", 0, x.specks(0, 2, 20));
        due("19 only larger ones count", 5, x.specks(0, 100, 20));
        int[][] wrong = {{0, 0, 0}, {0, 101, 0}, {0, 1, -1}, {0, 1, 21}, {1, 1, 1}, {-1, 1, 1},
            {0, LEAST, 0}, {0, 1, MOST}};
        for (int[] w : wrong) {
            due("19 wrong", NONE, x.specks(w[0], w[1], w[2]));
        }
        due("19 no change", 0, x.count(1));
        due("19 no list", 0, x.count(2));
        due("19 all stays", 11, x.of(0, 2));
        x.page(4, 4);
        due("19 no ink", 0, x.specks(1, 5, 5));
        int block = Desk.add(x, "#....#", "......", "..##..", "..##..", "......", "#....#");
        due("19 far from it on all sides", 4, x.specks(block, 3, 1));
        due("19 near it on all sides", 0, x.specks(block, 3, 2));
        x.page(64, 64);
        x.lay(3, 63, 3, 1, 0xFL << 60, 0L);
        x.set(3, 63, 43, true);
        x.set(3, 40, 63, true);
        due("19 d 19 in the far corner", 2, x.specks(3, 3, 19));
        due("19 d 20 in the far corner", 0, x.specks(3, 3, 20));
        x.set(3, 39, 63, true);
        x.set(3, 40, 63, false);
        due("19 a column farther", 1, x.specks(3, 3, 20));
    }

    private static void take() {
        StraightPages x = dirty();
        due("20 take", 3, x.take(0, 2, 2));
        looks("20 take", x, 0,
            "###.......",
            "###.......",
            "..........",
            "....##....",
            "..........",
            "..........");
        int[][] want = {{5, 1}, {9, 3}, {5, 5}};
        due("20 list", 3, x.count(2));
        for (int i = 0; i < 3; i++) {
            due("20 x " + i, want[i][0], x.listed(i, 0));
            due("20 y " + i, want[i][1], x.listed(i, 1));
        }
        due("20 a change", 1, x.count(1));
        int[][] wrong = {{0, 0, 0}, {0, 101, 0}, {0, 1, -1}, {0, 1, 21}, {1, 1, 1}, {-1, 1, 1}};
        for (int[] w : wrong) {
            due("20 wrong", NONE, x.take(w[0], w[1], w[2]));
        }
        due("20 refused keeps the list", 3, x.count(2));
        due("20 nothing to take", 0, x.take(0, 1, 0));
        due("20 a change all the same", 2, x.count(1));
        due("20 and an empty list", 0, x.count(2));
        x.back();
        x.back();
        due("20 taken back", 11, x.of(0, 2));
        due("20 points, not specks", 5, x.take(0, 2, 0));
        due("20 the left one first", 4, x.listed(1, 0));
        due("20 then the right one", 5, x.listed(2, 0));
    }

    private static void shadow() {
        StraightPages x = Desk.of(
            "##..#.#",
            "##....#",
            "#.....#",
            "##....#");
        due("21 left and right", 3, x.shadow(0, 75));
        looks("21 shadow", x, 0, "....#..", ".......", ".......", ".......");
        due("21 list", 11, x.count(2));
        int[][] want = {{0, 0}, {1, 0}, {6, 0}, {0, 1}, {1, 1}, {6, 1}, {0, 2}, {6, 2}, {0, 3}};
        for (int i = 0; i < want.length; i++) {
            due("21 x " + i, want[i][0], x.listed(i, 0));
            due("21 y " + i, want[i][1], x.listed(i, 1));
        }
        x.back();
        due("21 p 76", 2, x.shadow(0, 76));
        looks("21 p 76", x, 0, ".#..#..", ".#.....", ".......", ".#.....");
        x.back();
        due("21 p 1: an empty column is not dark", 3, x.shadow(0, 1));
        x.back();
        due("21 p", NONE, x.shadow(0, 0));
        due("21 p", NONE, x.shadow(0, 101));
        due("21 p", NONE, x.shadow(0, LEAST));
        due("21 page", NONE, x.shadow(1, 5));
        due("21 page", NONE, x.shadow(-1, 5));
        due("21 refused is no change", 0, x.count(1));
        due("21 refused keeps the list", 11, x.count(2));
        Desk.add(x, "###", "###");
        due("21 all dark", 0, x.shadow(1, 100));
        due("21 all dark, none taken", 6, x.of(1, 2));
        due("21 an empty list", 0, x.count(2));
        due("21 a change all the same", 1, x.count(1));
        Desk.add(x, ".##", ".##");
        due("21 right alone", 2, x.shadow(2, 100));
        Desk.add(x, "##.##", "##.##", ".#...");
        due("21 two of three are below 67", 0, x.shadow(3, 67));
        due("21 two of three are above 66", 4, x.shadow(3, 66));
        x.page(64, 1);
        x.lay(4, 0, 3, 1, -1L << 1, 0L);
        due("21 63 columns", 63, x.shadow(4, 100));
        x.lay(4, 0, 3, 1, -1L, 0L);
        due("21 64 dark columns", 0, x.shadow(4, 100));
    }

    private static void listed() {
        StraightPages x = Desk.of("#.#", "...", ".#.");
        x.take(0, 1, 0);
        due("22 x", 2, x.listed(1, 0));
        due("22 y", 0, x.listed(1, 1));
        due("22 x", 1, x.listed(2, 0));
        due("22 y", 2, x.listed(2, 1));
        x.cut(0, 0);
        x.page(1, 1);
        x.shadow(5, 1);
        due("22 as it was then", 2, x.listed(2, 1));
        x.back();
        due("22 back leaves the list", 1, x.listed(2, 0));
        CHECKS.throwsNoSuchElement("22 i 3", () -> x.listed(3, 0));
        CHECKS.throwsNoSuchElement("22 i -1", () -> x.listed(-1, 0));
        CHECKS.throwsNoSuchElement("22 i most", () -> x.listed(MOST, 1));
        CHECKS.throwsNoSuchElement("22 what 2", () -> x.listed(0, 2));
        CHECKS.throwsNoSuchElement("22 what -1", () -> x.listed(0, -1));
        StraightPages full = new StraightPages();
        full.page(64, 64);
        full.lay(0, 0, 3, 64, -1L, 0L);
        full.set(0, 0, 0, false);
        due("22 63 columns", 63, full.shadow(0, 100));
        due("22 many", 63 * 64, full.count(2));
        due("22 the last one's x", 63, full.listed(63 * 64 - 1, 0));
        due("22 the last one's y", 63, full.listed(63 * 64 - 1, 1));
        due("22 the first one's x", 1, full.listed(0, 0));
    }

    private static void box() {
        StraightPages x = Desk.of(".....", "...#.", ".#...", ".....");
        int[] want = {1, 1, 3, 2};
        for (int what = 0; what < 4; what++) {
            due("23 box " + what, want[what], x.box(0, what));
        }
        due("23 what", NONE, x.box(0, 4));
        due("23 what", NONE, x.box(0, -1));
        due("23 page", NONE, x.box(1, 0));
        due("23 page", NONE, x.box(-1, 0));
        x.page(64, 64);
        due("23 no ink", NONE, x.box(1, 3));
        x.set(1, 63, 63, true);
        for (int what = 0; what < 4; what++) {
            due("23 far corner " + what, 63, x.box(1, what));
        }
    }

    private static void cut() {
        StraightPages x = Desk.of(".....", "...#.", ".#...", ".....");
        due("24 cut", true, x.cut(0, 0));
        looks("24 cut", x, 0, "..#", "#..");
        due("24 wider than it was", true, x.cut(0, 2));
        looks("24 cut", x, 0, ".......", ".......", "....#..", "..#....", ".......", ".......");
        due("24 changes", 2, x.count(1));
        due("24 m", false, x.cut(0, -1));
        due("24 m", false, x.cut(0, 21));
        due("24 m", false, x.cut(0, MOST));
        due("24 page", false, x.cut(1, 1));
        due("24 page", false, x.cut(-1, 1));
        x.page(5, 5);
        due("24 no ink", false, x.cut(1, 1));
        due("24 refused is no change", 2, x.count(1));
        x.page(25, 2);
        x.line(2, 1, -1L);
        due("24 too wide", false, x.cut(2, 20));
        x.set(2, 24, 1, false);
        due("24 just wide enough", true, x.cut(2, 20));
        due("24 just wide enough", 64, x.of(2, 0));
        due("24 high", 41, x.of(2, 1));
        due("24 its row", 0xFF_FFFFL << 20, x.row(2, 20));
        x.page(2, 25);
        for (int y = 0; y < 25; y++) {
            x.set(3, 0, y, true);
        }
        due("24 too high", false, x.cut(3, 20));
        x.page(64, 64);
        x.set(4, 63, 63, true);
        x.set(4, 0, 0, true);
        due("24 all of it", true, x.cut(4, 0));
        due("24 all of it", Long.MIN_VALUE, x.row(4, 63));
        due("24 no more", false, x.cut(4, 1));
        x.set(4, 0, 0, false);
        due("24 the far corner alone", true, x.cut(4, 20));
        due("24 the far corner alone", 41, x.of(4, 1));
        due("24 the far corner alone", 1, x.at(4, 20, 20));
        due("24 the far corner alone", 1, x.of(4, 2));
    }

    private static void tells(String what, StraightPages x, int... numbers) {
        due(what + " count", numbers.length, x.count(3));
        for (int i = 0; i < Math.min(numbers.length, x.count(3)); i++) {
            due(what + " told " + i, numbers[i], x.told(i));
        }
    }

    private static void spans() {
        StraightPages x = Desk.of(
            "##..#...#",
            ".........",
            "#.......#",
            ".........",
            ".........",
            "....#....");
        due("25 columns", 3, x.spans(0, 0, 1));
        tells("25 columns", x, 0, 1, 4, 4, 8, 8);
        due("25 g 2", 3, x.spans(0, 0, 2));
        due("25 g 3", 2, x.spans(0, 0, 3));
        tells("25 g 3", x, 0, 4, 8, 8);
        due("25 g 4", 1, x.spans(0, 0, 4));
        tells("25 g 4", x, 0, 8);
        due("25 lines", 3, x.spans(0, 1, 1));
        tells("25 lines", x, 0, 0, 2, 2, 5, 5);
        due("25 lines, g 2", 2, x.spans(0, 1, 2));
        tells("25 lines, g 2", x, 0, 2, 5, 5);
        due("25 g 64", 1, x.spans(0, 1, 64));
        int[][] wrong = {{1, 0, 1}, {-1, 0, 1}, {0, 2, 1}, {0, -1, 1}, {0, 0, 0}, {0, 0, 65},
            {0, 1, LEAST}};
        for (int[] w : wrong) {
            due("25 wrong", NONE, x.spans(w[0], w[1], w[2]));
        }
        tells("25 refused keeps the row", x, 0, 5);
        due("25 no change", 0, x.count(1));
        x.page(64, 64);
        due("25 no ink", 0, x.spans(1, 0, 1));
        tells("25 no ink", x);
        x.line(1, 0, 0xAAAA_AAAA_AAAA_AAAAL);
        due("25 many", 32, x.spans(1, 0, 1));
        due("25 many", 64, x.count(3));
        due("25 many", 63, x.told(63));
        due("25 the row stays", NONE, x.spans(1, 0, 65));
        due("25 many joined", 1, x.spans(1, 0, 2));
        tells("25 many joined", x, 1, 63);
        x.line(1, 0, -1L);
        due("25 full", 1, x.spans(1, 0, 1));
        tells("25 full", x, 0, 63);
    }

    private static void part() {
        StraightPages x = Desk.of("###.###", "###.#.#");
        due("26 the least", 1, x.part(0, 1, 6, 0));
        looks("26 left", x, 0, "###", "###");
        looks("26 right", x, 1, ".###", ".#.#");
        due("26 a change", 1, x.count(1));
        x.back();
        due("26 e", NONE, x.part(0, 4, 6, 0));
        due("26 e", 1, x.part(0, 4, 6, 1));
        due("26 seam at 5", 5, x.of(0, 0));
        x.back();
        seamIs("26 nearest to the middle, 1 .. 5", 3, 8, 1, 5);
        seamIs("26 the left one, 1 .. 4", 2, 8, 1, 4);
        seamIs("26 one column alone", 7, 8, 7, 7);
        seamIs("26 the left one, 6 .. 7", 6, 8, 6, 7);
        seamIs("26 far", 63, 64, 63, 63);
        seamIs("26 near", 1, 64, 1, 1);
        int[][] wrong = {{1, 1, 1, 0}, {-1, 1, 1, 0}, {0, 0, 3, 9}, {0, 4, 3, 9}, {0, 1, 7, 9},
            {0, 1, 3, -1}, {0, LEAST, 3, 9}, {0, 1, MOST, 9}, {0, MOST, MOST, 9}, {0, 1, 3, LEAST}};
        for (int[] w : wrong) {
            due("26 wrong", NONE, x.part(w[0], w[1], w[2], w[3]));
        }
        due("26 refused is no change", 0, x.count(1));
        due("26 refused makes no page", 1, x.count(0));
        for (int i = 1; i < 8; i++) {
            x.page(2, 2);
        }
        due("26 eight", NONE, x.part(0, 3, 3, 9));
        StraightPages two = Desk.of("##..#.##.");
        due("26 nearest of the empty ones: 3 and 5 are alike far from 4, so the left one", 1,
            two.part(0, 1, 7, 0));
        due("26 left", 3, two.of(0, 0));
        StraightPages nearer = Desk.of("#.###.##.");
        nearer.part(0, 1, 7, 0);
        due("26 5 is nearer to 4 than 1", 5, nearer.of(0, 0));
        StraightPages last = Desk.of("###.#");
        last.part(0, 1, 3, 0);
        due("26 the seam at b", 3, last.of(0, 0));
        StraightPages first = Desk.of("#.###");
        first.part(0, 1, 3, 0);
        due("26 the seam at a", 1, first.of(0, 0));
    }

    private static void seamIs(String what, int want, int w, int a, int b) {
        StraightPages x = new StraightPages();
        x.page(w, 2);
        due(what, 1, x.part(0, a, b, 0));
        due(what, want, x.of(0, 0));
        due(what, w - want, x.of(1, 0));
    }

    private static void partTakenBack() {
        StraightPages x = Desk.of("#.#.#");
        x.part(0, 1, 1, 0);
        x.part(1, 2, 2, 0);
        due("26 three", 3, x.count(0));
        due("26 back answers the page that was parted", 1, x.back());
        due("26 the last one is gone", 2, x.count(0));
        looks("26 back", x, 1, ".#.#");
        due("26 back", 0, x.back());
        looks("26 back", x, 0, "#.#.#");
        due("26 gone", 1, x.count(0));
        x.part(0, 3, 3, 0);
        x.copy(0);
        due("26 back", 0, x.back());
        due("26 not the last one: it stays", 3, x.count(0));
        looks("26 whole again", x, 0, "#.#.#");
        looks("26 stays", x, 1, ".#");
        looks("26 stays", x, 2, "#.#");
        due("26 nothing more", NONE, x.back());
        x.part(0, 3, 3, 0);
        x.lay(0, 0, 4, 0, 0L, 0L);
        due("26 after lay", NONE, x.back());
        due("26 it stays then", 4, x.count(0));
    }

    private static void back() {
        StraightPages x = Desk.of("..", "..");
        x.page(3, 3);
        x.set(1, 0, 0, true);
        x.set(0, 1, 1, true);
        due("27 the latest first", 0, x.back());
        due("27 its page", 0, x.of(0, 2));
        due("27 the other one stays", 1, x.of(1, 2));
        due("27 then the one ahead", 1, x.back());
        due("27 no more", NONE, x.back());
        due("27 nothing", 0, x.of(1, 2));
        for (int i = 0; i < 23; i++) {
            x.line(0, 0, i % 4);
        }
        due("27 ten", 10, x.count(1));
        for (int i = 21; i > 17; i--) {
            due("27 back", 0, x.back());
            due("27 row as of " + i, i % 4, x.row(0, 0));
        }
        due("27 six", 6, x.count(1));
        x.set(1, 2, 2, true);
        due("27 seven", 7, x.count(1));
        due("27 back", 1, x.back());
        for (int i = 17; i > 11; i--) {
            due("27 back", 0, x.back());
        }
        due("27 row", 12 % 4, x.row(0, 0));
        due("27 all ten are back", NONE, x.back());
    }

    private static void backOfEveryKind() {
        String[] rows = {
            "#........#",
            "#..##.....",
            "#........#",
            "#..#......"};
        StraightPages x = Desk.of(rows);
        x.copy(0);
        x.across(0, 5);
        x.upright(0, -5);
        x.turn(0, 3, 4);
        x.bend(0);
        x.take(0, 1, 1);
        x.shadow(0, 1);
        x.cut(0, 1);
        x.set(0, 0, 0, true);
        x.line(0, 1, -1L);
        x.part(0, 2, 3, 20);
        due("27 ten kinds", 10, x.count(1));
        for (int i = 0; i < 10; i++) {
            due("27 back " + i, 0, x.back());
        }
        looks("27 as it was", x, 0, rows);
        due("27 as it was", NONE, x.unlike(0, 1));
        due("27 the part's page is gone", 2, x.count(0));
    }

    private static void told() {
        StraightPages x = Desk.of("#.##");
        x.spans(0, 0, 1);
        due("28 told", 0, x.told(0));
        due("28 told", 0, x.told(1));
        due("28 told", 2, x.told(2));
        due("28 told", 3, x.told(3));
        CHECKS.throwsNoSuchElement("28 told 4", () -> x.told(4));
        CHECKS.throwsNoSuchElement("28 told -1", () -> x.told(-1));
        CHECKS.throwsNoSuchElement("28 told most", () -> x.told(MOST));
        x.spans(0, 0, 2);
        due("28 told anew", 3, x.told(1));
        CHECKS.throwsNoSuchElement("28 told 2", () -> x.told(2));
        x.line(0, 0, 0L);
        due("28 the row stays as it was told", 3, x.told(1));
        x.back();
        due("28 the row stays when a change is taken back", 3, x.told(1));
    }

    private static void refusedCallsChangeNothing() {
        StraightPages x = Desk.of("#.#", "...", ".#.");
        x.set(0, 1, 0, true);
        x.spans(0, 0, 1);
        String was = Desk.picture(x, 0);
        x.page(0, 0);
        x.copy(4);
        x.set(0, 3, 3, true);
        x.line(0, 3, 1L);
        x.lay(0, 0, 0, -1, 1L, 1L);
        x.across(0, 40);
        x.upright(0, 40);
        x.turn(0, 40, 0);
        x.bend(7);
        x.take(0, 0, 0);
        x.shadow(0, 0);
        x.cut(0, 40);
        x.spans(0, 9, 1);
        x.part(0, 1, 2, -1);
        CHECKS.hold("refused: the page stays", Desk.picture(x, 0).equals(was));
        due("refused: pages", 1, x.count(0));
        due("refused: changes", 1, x.count(1));
        due("refused: list", 0, x.count(2));
        due("refused: row", 2, x.count(3));
    }
}
