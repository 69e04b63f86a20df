import java.util.Arrays;
import java.util.NoSuchElementException;

/**
 * A desk of straight pages: sheets of ink points that were scanned askew, bent and dirty, put
 * straight by whole shears and bends, cleaned, cut, parted and measured; each change taken back.
 */
public final class StraightPages {
    public static final int NONE = -1;

    private static final int NO_PAGES = -2;
    private static final int NO_LENGTH = -2;
    private static final int OTHER_SIZE = 100;
    private static final int NO_ANGLE = 100;
    private static final int NO_FOOT = 100;
    private static final int MOST_SIZE = 64;
    private static final int MOST_PAGES = 8;
    private static final int MOST_CHANGES = 10;
    private static final int MOST_SHEAR = 16;
    private static final int MOST_SHARP_SHEAR = 12;
    private static final int SHEAR_PARTS = 16;
    private static final int MOST_SPECK = 100;
    private static final int MOST_REACH = 20;
    private static final int MOST_MARGIN = 20;
    private static final int PERCENT = 100;
    private static final int MISSING_SHEET = 4;

    private final Sheet[] sheets;
    private int sheetCount;
    private final History history;
    private final Spots spots;
    private final Sheet list;
    private final Sheet bench;
    private final int[] numbers;
    private int numberCount;

    public StraightPages() {
        sheets = new Sheet[MOST_PAGES];
        for (int i = 0; i < MOST_PAGES; i++) {
            sheets[i] = new Sheet(MOST_SIZE);
        }
        sheetCount = 0;
        history = new History();
        spots = new Spots();
        list = new Sheet(MOST_SIZE);
        // a page sheared up for its sharpness may be nearly twice as high as a page can be
        bench = new Sheet(2 * MOST_SIZE);
        // two numbers a span, and one empty column at least between two spans: 32 of them at most
        numbers = new int[MOST_SIZE];
        numberCount = 0;
    }

    // ---- pages

    public int page(int w, int h) {
        if (!within(w, 1, MOST_SIZE) || !within(h, 1, MOST_SIZE) || sheetCount >= MOST_PAGES) {
            return NONE;
        }
        sheets[sheetCount].empty(w, h);
        return sheetCount++;
    }

    public int copy(int page) {
        Sheet sheet = find(page);
        if (sheet == null || sheetCount >= MOST_PAGES) {
            return NONE;
        }
        sheets[sheetCount].become(sheet);
        return sheetCount++;
    }

    public boolean set(int page, int x, int y, boolean ink) {
        Sheet sheet = find(page);
        if (sheet == null || !sheet.hasPoint(x, y)) {
            return false;
        }
        history.remember(page, sheet, NONE);
        long point = 1L << x;
        sheet.rows[y] = ink ? sheet.rows[y] | point : sheet.rows[y] & ~point;
        return true;
    }

    public int line(int page, int y, long bits) {
        Sheet sheet = find(page);
        if (sheet == null || !sheet.hasRow(y)) {
            return NONE;
        }
        history.remember(page, sheet, NONE);
        sheet.rows[y] = bits & sheet.allColumns();
        return Long.bitCount(sheet.rows[y]);
    }

    public int lay(int page, int y, int kind, int n, long f, long step) {
        Sheet sheet = find(page);
        if (sheet == null || !sheet.hasRow(y) || !within(kind, 0, MISSING_SHEET) || n > MOST_SIZE) {
            return NONE;
        }
        if (n < 0 && kind != MISSING_SHEET) {
            return NO_LENGTH;
        }
        history.forget();
        if (kind == MISSING_SHEET) {
            return 0;
        }
        int laid = Math.min(n, sheet.high - y);
        long kept = entryBits(kind) & sheet.allColumns();
        for (int i = 0; i < laid; i++) {
            sheet.rows[y + i] = (f + i * step) & kept;
        }
        return laid;
    }

    public int at(int page, int x, int y) {
        Sheet sheet = find(page);
        if (sheet == null || !sheet.hasPoint(x, y)) {
            return NONE;
        }
        return (sheet.rows[y] >>> x & 1L) == 1L ? 1 : 0;
    }

    public long row(int page, int y) throws NoSuchElementException {
        Sheet sheet = find(page);
        if (sheet == null || !sheet.hasRow(y)) {
            throw new NoSuchElementException("no such row");
        }
        return sheet.rows[y];
    }

    public int of(int page, int what) {
        Sheet sheet = find(page);
        if (sheet == null) {
            return NONE;
        }
        switch (what) {
            case 0:
                return sheet.wide;
            case 1:
                return sheet.high;
            case 2:
                return sheet.ink();
            case 3:
                return Long.bitCount(sheet.inkedRows());
            case 4:
                return Long.bitCount(sheet.inkedColumns());
            case 5:
                return spots.number(sheet);
            case 6:
                return spots.largest(sheet);
            default:
                return NONE;
        }
    }

    public int count(int what) {
        switch (what) {
            case 0:
                return sheetCount;
            case 1:
                return history.kept;
            case 2:
                return list.ink();
            case 3:
                return numberCount;
            default:
                return NONE;
        }
    }

    public int unlike(int a, int b) {
        Sheet one = find(a);
        Sheet other = find(b);
        if (one == null || other == null) {
            return NO_PAGES;
        }
        if (one.wide != other.wide || one.high != other.high) {
            return OTHER_SIZE;
        }
        for (int y = 0; y < one.high; y++) {
            if (one.rows[y] != other.rows[y]) {
                return y;
            }
        }
        return NONE;
    }

    // ---- shears

    public int across(int page, int s) {
        Sheet sheet = find(page);
        if (sheet == null || !isShear(s) || sheet.wide + spread(s, sheet.high) > MOST_SIZE) {
            return NONE;
        }
        history.remember(page, sheet, NONE);
        sheet.shearAcross(s);
        return sheet.wide;
    }

    public int upright(int page, int s) {
        Sheet sheet = find(page);
        if (sheet == null || !isShear(s) || sheet.high + spread(s, sheet.wide) > MOST_SIZE) {
            return NONE;
        }
        history.remember(page, sheet, NONE);
        shearUp(sheet, s);
        return sheet.high;
    }

    public boolean turn(int page, int a, int b) {
        Sheet sheet = find(page);
        if (sheet == null || !isShear(a) || !isShear(b) || !canTurn(sheet, a, b)) {
            return false;
        }
        history.remember(page, sheet, NONE);
        sheet.shearAcross(a);
        shearUp(sheet, b);
        sheet.shearAcross(a);
        return true;
    }

    public int sharp(int page, int s) {
        Sheet sheet = find(page);
        if (sheet == null || !within(s, -MOST_SHARP_SHEAR, MOST_SHARP_SHEAR)) {
            return NONE;
        }
        return sharpness(sheet, s);
    }

    public int angle(int page) {
        Sheet sheet = find(page);
        if (sheet == null) {
            return NONE;
        }
        if (Long.bitCount(sheet.inkedRows()) < 2) {
            return NO_ANGLE;
        }
        int best = 0;
        int most = sharpness(sheet, 0);
        // the smaller size first and the one above 0 ahead of its twin, so that only more wins
        for (int size = 1; size <= MOST_SHARP_SHEAR; size++) {
            int above = sharpness(sheet, size);
            if (above > most) {
                most = above;
                best = size;
            }
            int below = sharpness(sheet, -size);
            if (below > most) {
                most = below;
                best = -size;
            }
        }
        return best;
    }

    // ---- mending

    public int bend(int page) {
        Sheet sheet = find(page);
        if (sheet == null) {
            return NONE;
        }
        history.remember(page, sheet, NONE);
        int lowest = highestBit(sheet.inkedRows());
        int went = 0;
        bench.empty(sheet.wide, sheet.high);
        for (int step = 0; step < sheet.steps(); step++) {
            int foot = sheet.footOf(step);
            if (foot != NONE) {
                bench.addDropped(sheet, stepColumns(step), lowest - foot);
                went += foot < lowest ? 1 : 0;
            }
        }
        sheet.become(bench);
        return went;
    }

    public int foot(int page, int step) {
        Sheet sheet = find(page);
        if (sheet == null || !within(step, 0, sheet.steps() - 1)) {
            return NONE;
        }
        int foot = sheet.footOf(step);
        return foot == NONE ? NO_FOOT : foot;
    }

    public int specks(int page, int k, int d) {
        Sheet sheet = find(page);
        if (sheet == null || !isSpeckRule(k, d)) {
            return NONE;
        }
        return spots.findSpecks(sheet, k, d);
    }

    public int take(int page, int k, int d) {
        Sheet sheet = find(page);
        if (sheet == null || !isSpeckRule(k, d)) {
            return NONE;
        }
        spots.findSpecks(sheet, k, d);
        list.become(spots.specks);
        takeListed(page, sheet);
        return list.ink();
    }

    public int shadow(int page, int p) {
        Sheet sheet = find(page);
        if (sheet == null || !within(p, 1, PERCENT)) {
            return NONE;
        }
        long columns = sheet.shadowColumns(p);
        list.empty(sheet.wide, sheet.high);
        list.addDropped(sheet, columns, 0);
        takeListed(page, sheet);
        return Long.bitCount(columns);
    }

    public int listed(int i, int what) throws NoSuchElementException {
        if (!within(what, 0, 1) || !within(i, 0, list.ink() - 1)) {
            throw new NoSuchElementException("no such point");
        }
        int ahead = i;
        int y = 0;
        while (y < list.high - 1 && ahead >= Long.bitCount(list.rows[y])) {
            ahead -= Long.bitCount(list.rows[y]);
            y++;
        }
        return what == 1 ? y : bitAfter(list.rows[y], ahead);
    }

    // ---- content

    public int box(int page, int what) {
        Sheet sheet = find(page);
        if (sheet == null || !sheet.hasInk()) {
            return NONE;
        }
        switch (what) {
            case 0:
                return lowestBit(sheet.inkedColumns());
            case 1:
                return lowestBit(sheet.inkedRows());
            case 2:
                return highestBit(sheet.inkedColumns());
            case 3:
                return highestBit(sheet.inkedRows());
            default:
                return NONE;
        }
    }

    public boolean cut(int page, int m) {
        Sheet sheet = find(page);
        if (sheet == null || !within(m, 0, MOST_MARGIN) || !sheet.hasInk()) {
            return false;
        }
        int left = lowestBit(sheet.inkedColumns());
        int top = lowestBit(sheet.inkedRows());
        int w = highestBit(sheet.inkedColumns()) - left + 1 + 2 * m;
        int h = highestBit(sheet.inkedRows()) - top + 1 + 2 * m;
        if (w > MOST_SIZE || h > MOST_SIZE) {
            return false;
        }
        history.remember(page, sheet, NONE);
        bench.empty(w, h);
        for (int y = m; y < h - m; y++) {
            bench.rows[y] = sheet.rows[top + y - m] >>> left << m;
        }
        sheet.become(bench);
        return true;
    }

    public int spans(int page, int what, int g) {
        Sheet sheet = find(page);
        if (sheet == null || !within(what, 0, 1) || !within(g, 1, MOST_SIZE)) {
            return NONE;
        }
        tellSpans(what == 0 ? sheet.inkedColumns() : sheet.inkedRows(), g);
        return numberCount / 2;
    }

    public int part(int page, int a, int b, int e) {
        Sheet sheet = find(page);
        if (sheet == null || a < 1 || a > b || b >= sheet.wide || e < 0
                || sheetCount >= MOST_PAGES) {
            return NONE;
        }
        int seam = sheet.faintestColumn(a, b);
        if (sheet.columnInk(seam) > e) {
            return NONE;
        }
        history.remember(page, sheet, sheetCount);
        sheet.moveRightPart(seam, sheets[sheetCount]);
        return sheetCount++;
    }

    public int back() {
        Change change = history.takeLatest();
        if (change == null) {
            return NONE;
        }
        Sheet sheet = find(change.page);
        if (sheet == null) {
            return NONE;
        }
        sheet.become(change.before);
        if (change.made != NONE && change.made == sheetCount - 1) {
            sheetCount--;
        }
        return change.page;
    }

    public int told(int i) throws NoSuchElementException {
        if (!within(i, 0, numberCount - 1)) {
            throw new NoSuchElementException("no such number");
        }
        return numbers[i];
    }

    // ---- what the calls share

    private Sheet find(int page) {
        return within(page, 0, sheetCount - 1) ? sheets[page] : null;
    }

    private static boolean within(int number, int least, int most) {
        return number >= least && number <= most;
    }

    private static boolean isShear(int s) {
        return within(s, -MOST_SHEAR, MOST_SHEAR);
    }

    private static boolean isSpeckRule(int k, int d) {
        return within(k, 1, MOST_SPECK) && within(d, 0, MOST_REACH);
    }

    private static long entryBits(int kind) {
        return kind == 0 ? 0xFFL : kind == 1 ? 0xFFFFL : kind == 2 ? 0xFFFFFFFFL : -1L;
    }

    private static boolean canTurn(Sheet sheet, int a, int b) {
        int firstWide = sheet.wide + spread(a, sheet.high);
        int high = sheet.high + spread(b, firstWide);
        return firstWide <= MOST_SIZE && high <= MOST_SIZE
                && firstWide + spread(a, high) <= MOST_SIZE;
    }

    private void shearUp(Sheet sheet, int s) {
        bench.becomeShearedUp(sheet, s);
        sheet.become(bench);
    }

    private int sharpness(Sheet sheet, int s) {
        bench.becomeShearedUp(sheet, s);
        int sum = 0;
        for (int y = 0; y < bench.high; y++) {
            int ink = Long.bitCount(bench.rows[y]);
            sum += ink * ink;
        }
        return sum;
    }

    private void takeListed(int page, Sheet sheet) {
        history.remember(page, sheet, NONE);
        for (int y = 0; y < sheet.high; y++) {
            sheet.rows[y] &= ~list.rows[y];
        }
    }

    private void tellSpans(long inked, int g) {
        numberCount = 0;
        for (int i = 0; i < MOST_SIZE; i++) {
            if ((inked >>> i & 1L) == 0L) {
                continue;
            }
            if (numberCount == 0 || i - numbers[numberCount - 1] > g) {
                numbers[numberCount] = i;
                numberCount += 2;
            }
            numbers[numberCount - 1] = i;
        }
    }

    /** How far row (or column) i slides by s, as told from row (or column) 0. */
    private static int slide(int s, int i) {
        return Math.floorDiv(s * i, SHEAR_PARTS);
    }

    /** Slides only rise or only fall from 0 on, so the last of n is the least one or the greatest. */
    private static int leastSlide(int s, int n) {
        return Math.min(0, slide(s, n - 1));
    }

    private static int spread(int s, int n) {
        return Math.abs(slide(s, n - 1));
    }

    private static long stepColumns(int step) {
        return 0xFFL << 8 * step;
    }

    /** The place of the lowest 1; 64 if there is none. */
    private static int lowestBit(long bits) {
        return Long.bitCount((bits & -bits) - 1L);
    }

    /** The place of the highest 1; NONE if there is none. */
    private static int highestBit(long bits) {
        int place = MOST_SIZE - 1;
        while (place >= 0 && (bits >>> place & 1L) == 0L) {
            place--;
        }
        return place;
    }

    /** The place of the lowest 1 that has so many below it. */
    private static int bitAfter(long bits, int ahead) {
        long left = bits;
        for (int i = 0; i < ahead; i++) {
            left &= left - 1L;
        }
        return lowestBit(left);
    }

    /** A page's points: bit x of rows[y]. Bits from wide on and rows from high on are always 0. */
    private static final class Sheet {
        int wide;
        int high;
        final long[] rows;

        Sheet(int mostRows) {
            wide = 0;
            high = 0;
            rows = new long[mostRows];
        }

        void empty(int w, int h) {
            wide = w;
            high = h;
            Arrays.fill(rows, 0L);
        }

        void become(Sheet other) {
            empty(other.wide, other.high);
            System.arraycopy(other.rows, 0, rows, 0, other.high);
        }

        boolean hasRow(int y) {
            return y >= 0 && y < high;
        }

        boolean hasPoint(int x, int y) {
            return within(x, 0, wide - 1) && hasRow(y);
        }

        long allColumns() {
            return wide >= MOST_SIZE ? -1L : (1L << wide) - 1L;
        }

        int ink() {
            int sum = 0;
            for (int y = 0; y < high; y++) {
                sum += Long.bitCount(rows[y]);
            }
            return sum;
        }

        int columnInk(int x) {
            int sum = 0;
            for (int y = 0; y < high; y++) {
                sum += (rows[y] >>> x & 1L) == 1L ? 1 : 0;
            }
            return sum;
        }

        long inkedColumns() {
            long columns = 0L;
            for (int y = 0; y < high; y++) {
                columns |= rows[y];
            }
            return columns;
        }

        long inkedRows() {
            long inked = 0L;
            for (int y = 0; y < high; y++) {
                if (rows[y] != 0L) {
                    inked |= 1L << y;
                }
            }
            return inked;
        }

        boolean hasInk() {
            return inkedColumns() != 0L;
        }

        int steps() {
            return (wide + 7) / 8;
        }

        int footOf(int step) {
            int y = high - 1;
            while (y >= 0 && (rows[y] & stepColumns(step)) == 0L) {
                y--;
            }
            return y;
        }

        void shearAcross(int s) {
            int least = leastSlide(s, high);
            for (int y = 0; y < high; y++) {
                rows[y] <<= slide(s, y) - least;
            }
            wide += spread(s, high);
        }

        void becomeShearedUp(Sheet other, int s) {
            empty(other.wide, other.high + spread(s, other.wide));
            int least = leastSlide(s, wide);
            long together = 0L;
            for (int x = 0; x < wide; x++) {
                together |= 1L << x;
                if (x == wide - 1 || slide(s, x + 1) != slide(s, x)) {
                    addDropped(other, together, slide(s, x) - least);
                    together = 0L;
                }
            }
        }

        /** Lays these columns of another sheet, so many rows lower, on this one. */
        void addDropped(Sheet other, long columns, int by) {
            for (int y = 0; y < other.high && y + by < high; y++) {
                rows[y + by] |= other.rows[y] & columns;
            }
        }

        boolean isDark(int x, int p) {
            return columnInk(x) * PERCENT >= p * high;
        }

        long shadowColumns(int p) {
            long columns = 0L;
            for (int x = 0; x < wide && isDark(x, p); x++) {
                columns |= 1L << x;
            }
            if (columns == allColumns()) {
                return 0L;
            }
            for (int x = wide - 1; x >= 0 && isDark(x, p); x--) {
                columns |= 1L << x;
            }
            return columns;
        }

        int faintestColumn(int a, int b) {
            int best = a;
            int least = columnInk(a);
            for (int x = a + 1; x <= b; x++) {
                int ink = columnInk(x);
                boolean nearer = Math.abs(2 * x - a - b) < Math.abs(2 * best - a - b);
                if (ink < least || ink == least && nearer) {
                    least = ink;
                    best = x;
                }
            }
            return best;
        }

        void moveRightPart(int seam, Sheet other) {
            other.empty(wide - seam, high);
            wide = seam;
            for (int y = 0; y < high; y++) {
                other.rows[y] = rows[y] >>> seam;
                rows[y] &= allColumns();
            }
        }
    }

    /** What a page was before a change, and the page that the change made, if it made one. */
    private static final class Change {
        int page;
        int made;
        final Sheet before;

        Change() {
            page = NONE;
            made = NONE;
            before = new Sheet(MOST_SIZE);
        }
    }

    /** The latest changes, in a ring, so that the oldest one gives its place to the newest. */
    private static final class History {
        final Change[] ring;
        int next;
        int kept;

        History() {
            ring = new Change[MOST_CHANGES];
            for (int i = 0; i < MOST_CHANGES; i++) {
                ring[i] = new Change();
            }
            next = 0;
            kept = 0;
        }

        void remember(int page, Sheet sheet, int made) {
            Change change = ring[next];
            change.page = page;
            change.made = made;
            change.before.become(sheet);
            next = next + 1 < MOST_CHANGES ? next + 1 : 0;
            kept = Math.min(kept + 1, MOST_CHANGES);
        }

        Change takeLatest() {
            if (kept == 0) {
                return null;
            }
            kept--;
            next = next > 0 ? next - 1 : MOST_CHANGES - 1;
            return ring[next];
        }

        void forget() {
            kept = 0;
        }
    }

    /** Finds the spots of a sheet one after the other, a whole run of a row at a time. */
    private static final class Spots {
        // more than the spots, and more than the runs, of any page
        private static final int ENOUGH = MOST_SIZE * MOST_SIZE;

        final Sheet specks;
        private final Sheet left;
        private final Sheet spot;
        private final Sheet near;
        private final long[] waiting;
        private long waitingRows;
        private int points;
        private int top;
        private int bottom;
        private int firstLeft;

        Spots() {
            specks = new Sheet(MOST_SIZE);
            left = new Sheet(MOST_SIZE);
            spot = new Sheet(MOST_SIZE);
            near = new Sheet(MOST_SIZE);
            waiting = new long[MOST_SIZE];
            waitingRows = 0L;
            points = 0;
            top = 0;
            bottom = NONE;
            firstLeft = 0;
        }

        int number(Sheet sheet) {
            begin(sheet);
            int found = 0;
            while (found < ENOUGH && next()) {
                found++;
            }
            return found;
        }

        int largest(Sheet sheet) {
            begin(sheet);
            int most = 0;
            for (int i = 0; i < ENOUGH && next(); i++) {
                most = Math.max(most, points);
            }
            return most;
        }

        /** Leaves the points of all specks in specks, and answers how many specks they are. */
        int findSpecks(Sheet sheet, int k, int d) {
            markNearLarge(sheet, k, d);
            specks.empty(sheet.wide, sheet.high);
            int found = 0;
            begin(sheet);
            for (int i = 0; i < ENOUGH && next(); i++) {
                // a large spot is near itself, so what is not near one is small too
                if (!touchesNear()) {
                    found++;
                    addSpotTo(specks);
                }
            }
            return found;
        }

        private void markNearLarge(Sheet sheet, int k, int d) {
            near.empty(sheet.wide, sheet.high);
            begin(sheet);
            for (int i = 0; i < ENOUGH && next(); i++) {
                if (points > k) {
                    addSpotTo(near);
                }
            }
            for (int i = 0; i < d; i++) {
                widenNear();
            }
        }

        /** Makes near larger by one point on all sides. */
        private void widenNear() {
            long above = 0L;
            for (int y = 0; y < near.high; y++) {
                long here = near.rows[y];
                long below = y + 1 < near.high ? near.rows[y + 1] : 0L;
                near.rows[y] = widened(above | here | below) & near.allColumns();
                above = here;
            }
        }

        private boolean touchesNear() {
            boolean touches = false;
            for (int y = top; y <= bottom && !touches; y++) {
                touches = (spot.rows[y] & near.rows[y]) != 0L;
            }
            return touches;
        }

        private void addSpotTo(Sheet sheet) {
            for (int y = top; y <= bottom; y++) {
                sheet.rows[y] |= spot.rows[y];
            }
        }

        private void begin(Sheet sheet) {
            left.become(sheet);
            spot.empty(sheet.wide, sheet.high);
            top = 0;
            bottom = NONE;
            firstLeft = 0;
        }

        /** Moves the next spot out of what is left; false if nothing is left. */
        private boolean next() {
            clearSpot();
            while (firstLeft < left.high && left.rows[firstLeft] == 0L) {
                firstLeft++;
            }
            if (firstLeft >= left.high) {
                return false;
            }
            top = firstLeft;
            bottom = firstLeft;
            admit(firstLeft, left.rows[firstLeft] & -left.rows[firstLeft]);
            for (int i = 0; i < ENOUGH && waitingRows != 0L; i++) {
                growFrom(lowestBit(waitingRows));
            }
            return true;
        }

        private void clearSpot() {
            for (int y = top; y <= bottom; y++) {
                spot.rows[y] = 0L;
            }
            points = 0;
        }

        private void growFrom(int y) {
            long reach = widened(waiting[y]);
            waiting[y] = 0L;
            waitingRows &= ~(1L << y);
            admit(y - 1, reach);
            admit(y + 1, reach);
        }

        /** Moves the runs of row y that these points touch from what is left to the spot. */
        private void admit(int y, long touched) {
            if (!left.hasRow(y) || (touched & left.rows[y]) == 0L) {
                return;
            }
            long runs = runsAt(touched & left.rows[y], left.rows[y]);
            left.rows[y] &= ~runs;
            spot.rows[y] |= runs;
            waiting[y] |= runs;
            waitingRows |= 1L << y;
            points += Long.bitCount(runs);
            top = Math.min(top, y);
            bottom = Math.max(bottom, y);
        }

        private static long widened(long bits) {
            return bits | bits << 1 | bits >>> 1;
        }

        /** All runs of 1s in ink that hold one of seeds, by strides that double. */
        private static long runsAt(long seeds, long ink) {
            long up = seeds;
            long down = seeds;
            long upWay = ink;
            long downWay = ink;
            for (int stride = 1; stride < MOST_SIZE; stride *= 2) {
                up |= upWay & up << stride;
                upWay &= upWay << stride;
                down |= downWay & down >>> stride;
                downWay &= downWay >>> stride;
            }
            return up | down;
        }
    }
}
