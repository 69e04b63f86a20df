import java.util.ArrayList;
import java.util.List;
import java.util.NoSuchElementException;

/**
 * The document's words once more, as plainly as they can be written: grids of booleans, whole
 * copies, no bits. ModelTest holds the program against it.
 */
final class PlainPages {
    private static final class Undo {
        int page;
        int made;
        boolean[][] grid;
    }

    private final List<boolean[][]> pages = new ArrayList<>();
    private final List<Undo> undo = new ArrayList<>();
    private final List<int[]> list = new ArrayList<>();
    private final List<Integer> told = new ArrayList<>();

    private boolean has(int page) {
        return page >= 0 && page < pages.size();
    }

    private static int width(boolean[][] g) {
        return g[0].length;
    }

    private boolean hasPoint(int page, int x, int y) {
        return has(page) && y >= 0 && y < pages.get(page).length && x >= 0 && x < width(pages.get(page));
    }

    private static boolean[][] same(boolean[][] g) {
        boolean[][] c = new boolean[g.length][];
        for (int y = 0; y < g.length; y++) {
            c[y] = g[y].clone();
        }
        return c;
    }

    private void change(int page, boolean[][] then, int made) {
        Undo u = new Undo();
        u.page = page;
        u.made = made;
        u.grid = same(pages.get(page));
        undo.add(u);
        if (undo.size() > 10) {
            undo.remove(0);
        }
        pages.set(page, then);
    }

    int page(int w, int h) {
        if (w < 1 || w > 64 || h < 1 || h > 64 || pages.size() == 8) {
            return -1;
        }
        pages.add(new boolean[h][w]);
        return pages.size() - 1;
    }

    int copy(int page) {
        if (!has(page) || pages.size() == 8) {
            return -1;
        }
        pages.add(same(pages.get(page)));
        return pages.size() - 1;
    }

    boolean set(int page, int x, int y, boolean ink) {
        if (!hasPoint(page, x, y)) {
            return false;
        }
        boolean[][] g = same(pages.get(page));
        g[y][x] = ink;
        change(page, g, -1);
        return true;
    }

    private static int fillRow(boolean[] row, long bits) {
        int n = 0;
        for (int x = 0; x < row.length; x++) {
            row[x] = (bits & (1L << x)) != 0;
            n += row[x] ? 1 : 0;
        }
        return n;
    }

    int line(int page, int y, long bits) {
        if (!hasPoint(page, 0, y)) {
            return -1;
        }
        boolean[][] g = same(pages.get(page));
        int n = fillRow(g[y], bits);
        change(page, g, -1);
        return n;
    }

    int lay(int page, int y, int kind, int n, long f, long step) {
        if (!hasPoint(page, 0, y) || kind < 0 || kind > 4 || n > 64) {
            return -1;
        }
        if (kind < 4 && n < 0) {
            return -2;
        }
        undo.clear();
        if (kind == 4) {
            return 0;
        }
        int rows = 0;
        long entry = f;
        boolean[][] g = pages.get(page);
        for (int i = 0; i < n && y + i < g.length; i++) {
            long v = entry;
            switch (kind) {
                case 0: v = ((byte) entry) & 0xFF; break;
                case 1: v = ((short) entry) & 0xFFFF; break;
                case 2: v = Integer.toUnsignedLong((int) entry); break;
                default: break;
            }
            fillRow(g[y + i], v);
            entry += step;
            rows++;
        }
        return rows;
    }

    int at(int page, int x, int y) {
        return hasPoint(page, x, y) ? (pages.get(page)[y][x] ? 1 : 0) : -1;
    }

    long row(int page, int y) {
        if (!hasPoint(page, 0, y)) {
            throw new NoSuchElementException();
        }
        long bits = 0;
        boolean[] r = pages.get(page)[y];
        for (int x = r.length - 1; x >= 0; x--) {
            bits = bits * 2 + (r[x] ? 1 : 0);
        }
        return bits;
    }

    private static int rowInk(boolean[][] g, int y) {
        int n = 0;
        for (boolean b : g[y]) {
            n += b ? 1 : 0;
        }
        return n;
    }

    private static int columnInk(boolean[][] g, int x) {
        int n = 0;
        for (boolean[] r : g) {
            n += r[x] ? 1 : 0;
        }
        return n;
    }

    private static int inkOf(boolean[][] g) {
        int n = 0;
        for (int y = 0; y < g.length; y++) {
            n += rowInk(g, y);
        }
        return n;
    }

    private static int rowsWithInk(boolean[][] g) {
        int n = 0;
        for (int y = 0; y < g.length; y++) {
            n += rowInk(g, y) > 0 ? 1 : 0;
        }
        return n;
    }

    private static int columnsWithInk(boolean[][] g) {
        int n = 0;
        for (int x = 0; x < width(g); x++) {
            n += columnInk(g, x) > 0 ? 1 : 0;
        }
        return n;
    }

    private static List<List<int[]>> spots(boolean[][] g) {
        boolean[][] seen = new boolean[g.length][width(g)];
        List<List<int[]>> all = new ArrayList<>();
        for (int y = 0; y < g.length; y++) {
            for (int x = 0; x < width(g); x++) {
                if (!g[y][x] || seen[y][x]) {
                    continue;
                }
                List<int[]> spot = new ArrayList<>();
                seen[y][x] = true;
                spot.add(new int[] {x, y});
                for (int i = 0; i < spot.size(); i++) {
                    int[] p = spot.get(i);
                    for (int dy = -1; dy <= 1; dy++) {
                        for (int dx = -1; dx <= 1; dx++) {
                            int nx = p[0] + dx;
                            int ny = p[1] + dy;
                            if (ny >= 0 && ny < g.length && nx >= 0 && nx < width(g)
                                    && g[ny][nx] && !seen[ny][nx]) {
                                seen[ny][nx] = true;
                                spot.add(new int[] {nx, ny});
                            }
                        }
                    }
                }
                all.add(spot);
            }
        }
        return all;
    }

    int of(int page, int what) {
        if (!has(page)) {
            return -1;
        }
        boolean[][] g = pages.get(page);
        switch (what) {
            case 0: return width(g);
            case 1: return g.length;
            case 2: return inkOf(g);
            case 3: return rowsWithInk(g);
            case 4: return columnsWithInk(g);
            case 5: return spots(g).size();
            case 6: {
                int most = 0;
                for (List<int[]> s : spots(g)) {
                    most = Math.max(most, s.size());
                }
                return most;
            }
            default: return -1;
        }
    }

    int count(int what) {
        switch (what) {
            case 0: return pages.size();
            case 1: return undo.size();
            case 2: return list.size();
            case 3: return told.size();
            default: return -1;
        }
    }

    int unlike(int a, int b) {
        if (!has(a) || !has(b)) {
            return -2;
        }
        boolean[][] p = pages.get(a);
        boolean[][] q = pages.get(b);
        if (p.length != q.length || width(p) != width(q)) {
            return 100;
        }
        for (int y = 0; y < p.length; y++) {
            for (int x = 0; x < width(p); x++) {
                if (p[y][x] != q[y][x]) {
                    return y;
                }
            }
        }
        return -1;
    }

    /** Each slide less the least of all. */
    private static int[] slides(int s, int n) {
        int[] by = new int[n];
        int least = Integer.MAX_VALUE;
        for (int i = 0; i < n; i++) {
            int product = s * i;
            int whole = product / 16;
            if (product < 0 && whole * 16 != product) {
                whole--;
            }
            by[i] = whole;
            least = Math.min(least, whole);
        }
        for (int i = 0; i < n; i++) {
            by[i] -= least;
        }
        return by;
    }

    private static int greatest(int[] by) {
        int most = 0;
        for (int b : by) {
            most = Math.max(most, b);
        }
        return most;
    }

    private static boolean[][] shearedAcross(boolean[][] g, int s) {
        int[] by = slides(s, g.length);
        boolean[][] then = new boolean[g.length][width(g) + greatest(by)];
        for (int y = 0; y < g.length; y++) {
            for (int x = 0; x < width(g); x++) {
                then[y][x + by[y]] = g[y][x];
            }
        }
        return then;
    }

    private static boolean[][] shearedUp(boolean[][] g, int s) {
        int[] by = slides(s, width(g));
        boolean[][] then = new boolean[g.length + greatest(by)][width(g)];
        for (int y = 0; y < g.length; y++) {
            for (int x = 0; x < width(g); x++) {
                then[y + by[x]][x] = g[y][x];
            }
        }
        return then;
    }

    private static boolean tooLarge(boolean[][] g) {
        return g.length > 64 || width(g) > 64;
    }

    int across(int page, int s) {
        if (!has(page) || s < -16 || s > 16) {
            return -1;
        }
        boolean[][] then = shearedAcross(pages.get(page), s);
        if (tooLarge(then)) {
            return -1;
        }
        change(page, then, -1);
        return width(then);
    }

    int upright(int page, int s) {
        if (!has(page) || s < -16 || s > 16) {
            return -1;
        }
        boolean[][] then = shearedUp(pages.get(page), s);
        if (tooLarge(then)) {
            return -1;
        }
        change(page, then, -1);
        return then.length;
    }

    boolean turn(int page, int a, int b) {
        if (!has(page) || a < -16 || a > 16 || b < -16 || b > 16) {
            return false;
        }
        boolean[][] one = shearedAcross(pages.get(page), a);
        if (tooLarge(one)) {
            return false;
        }
        boolean[][] two = shearedUp(one, b);
        if (tooLarge(two)) {
            return false;
        }
        boolean[][] three = shearedAcross(two, a);
        if (tooLarge(three)) {
            return false;
        }
        change(page, three, -1);
        return true;
    }

    int sharp(int page, int s) {
        if (!has(page) || s < -12 || s > 12) {
            return -1;
        }
        boolean[][] g = shearedUp(pages.get(page), s);
        int sum = 0;
        for (int y = 0; y < g.length; y++) {
            sum += rowInk(g, y) * rowInk(g, y);
        }
        return sum;
    }

    int angle(int page) {
        if (!has(page)) {
            return -1;
        }
        if (rowsWithInk(pages.get(page)) <= 1) {
            return 100;
        }
        int best = -12;
        for (int s = -11; s <= 12; s++) {
            int was = sharp(page, best);
            int is = sharp(page, s);
            boolean better = is > was;
            if (is == was) {
                better = Math.abs(s) < Math.abs(best) || Math.abs(s) == Math.abs(best) && s > 0;
            }
            if (better) {
                best = s;
            }
        }
        return best;
    }

    private static int footOf(boolean[][] g, int step) {
        int foot = -1;
        for (int y = 0; y < g.length; y++) {
            for (int x = 8 * step; x < Math.min(width(g), 8 * step + 8); x++) {
                if (g[y][x]) {
                    foot = y;
                }
            }
        }
        return foot;
    }

    int bend(int page) {
        if (!has(page)) {
            return -1;
        }
        boolean[][] g = pages.get(page);
        int lowest = -1;
        for (int step = 0; 8 * step < width(g); step++) {
            lowest = Math.max(lowest, footOf(g, step));
        }
        boolean[][] then = new boolean[g.length][width(g)];
        int went = 0;
        for (int step = 0; 8 * step < width(g); step++) {
            int foot = footOf(g, step);
            if (foot < 0) {
                continue;
            }
            went += foot == lowest ? 0 : 1;
            for (int y = 0; y <= foot; y++) {
                for (int x = 8 * step; x < Math.min(width(g), 8 * step + 8); x++) {
                    then[y + lowest - foot][x] = g[y][x];
                }
            }
        }
        change(page, then, -1);
        return went;
    }

    int foot(int page, int step) {
        if (!has(page) || step < 0 || step > (width(pages.get(page)) - 1) / 8) {
            return -1;
        }
        int foot = footOf(pages.get(page), step);
        return foot < 0 ? 100 : foot;
    }

    private static List<List<int[]>> specksOf(boolean[][] g, int k, int d) {
        List<List<int[]>> all = spots(g);
        List<List<int[]>> found = new ArrayList<>();
        for (List<int[]> small : all) {
            boolean alone = small.size() <= k;
            for (List<int[]> large : all) {
                if (!alone || large.size() <= k) {
                    continue;
                }
                for (int[] p : small) {
                    for (int[] q : large) {
                        if (Math.abs(p[0] - q[0]) <= d && Math.abs(p[1] - q[1]) <= d) {
                            alone = false;
                        }
                    }
                }
            }
            if (alone) {
                found.add(small);
            }
        }
        return found;
    }

    int specks(int page, int k, int d) {
        if (!has(page) || k < 1 || k > 100 || d < 0 || d > 20) {
            return -1;
        }
        return specksOf(pages.get(page), k, d).size();
    }

    private void takeAll(int page, boolean[][] taken) {
        list.clear();
        boolean[][] then = same(pages.get(page));
        for (int y = 0; y < taken.length; y++) {
            for (int x = 0; x < width(taken); x++) {
                if (taken[y][x] && then[y][x]) {
                    then[y][x] = false;
                    list.add(new int[] {x, y});
                }
            }
        }
        change(page, then, -1);
    }

    int take(int page, int k, int d) {
        if (!has(page) || k < 1 || k > 100 || d < 0 || d > 20) {
            return -1;
        }
        boolean[][] g = pages.get(page);
        boolean[][] taken = new boolean[g.length][width(g)];
        for (List<int[]> speck : specksOf(g, k, d)) {
            for (int[] p : speck) {
                taken[p[1]][p[0]] = true;
            }
        }
        takeAll(page, taken);
        return list.size();
    }

    int shadow(int page, int p) {
        if (!has(page) || p < 1 || p > 100) {
            return -1;
        }
        boolean[][] g = pages.get(page);
        boolean[] dark = new boolean[width(g)];
        int darks = 0;
        for (int x = 0; x < width(g); x++) {
            dark[x] = 100.0 * columnInk(g, x) / g.length >= p - 1e-9;
            darks += dark[x] ? 1 : 0;
        }
        boolean[] gone = new boolean[width(g)];
        if (darks < width(g)) {
            for (int x = 0; dark[x]; x++) {
                gone[x] = true;
            }
            for (int x = width(g) - 1; dark[x]; x--) {
                gone[x] = true;
            }
        }
        boolean[][] taken = new boolean[g.length][width(g)];
        int columns = 0;
        for (int x = 0; x < width(g); x++) {
            columns += gone[x] ? 1 : 0;
            for (int y = 0; y < g.length; y++) {
                taken[y][x] = gone[x];
            }
        }
        takeAll(page, taken);
        return columns;
    }

    int listed(int i, int what) {
        if (i < 0 || i >= list.size() || what < 0 || what > 1) {
            throw new NoSuchElementException();
        }
        return list.get(i)[what];
    }

    /** First column, first row, last column, last row; null without ink. */
    private static int[] content(boolean[][] g) {
        int[] box = null;
        for (int y = 0; y < g.length; y++) {
            for (int x = 0; x < width(g); x++) {
                if (g[y][x]) {
                    if (box == null) {
                        box = new int[] {x, y, x, y};
                    }
                    box[0] = Math.min(box[0], x);
                    box[2] = Math.max(box[2], x);
                    box[3] = y;
                }
            }
        }
        return box;
    }

    int box(int page, int what) {
        if (!has(page) || what < 0 || what > 3) {
            return -1;
        }
        int[] box = content(pages.get(page));
        return box == null ? -1 : box[what];
    }

    boolean cut(int page, int m) {
        if (!has(page) || m < 0 || m > 20) {
            return false;
        }
        boolean[][] g = pages.get(page);
        int[] box = content(g);
        if (box == null) {
            return false;
        }
        int w = box[2] - box[0] + 1 + 2 * m;
        int h = box[3] - box[1] + 1 + 2 * m;
        if (w > 64 || h > 64) {
            return false;
        }
        boolean[][] then = new boolean[h][w];
        for (int y = box[1]; y <= box[3]; y++) {
            for (int x = box[0]; x <= box[2]; x++) {
                then[y - box[1] + m][x - box[0] + m] = g[y][x];
            }
        }
        change(page, then, -1);
        return true;
    }

    int spans(int page, int what, int g) {
        if (!has(page) || what < 0 || what > 1 || g < 1 || g > 64) {
            return -1;
        }
        boolean[][] p = pages.get(page);
        int n = what == 0 ? width(p) : p.length;
        told.clear();
        int first = -1;
        int last = -1;
        for (int i = 0; i < n; i++) {
            boolean ink = (what == 0 ? columnInk(p, i) : rowInk(p, i)) > 0;
            if (!ink) {
                continue;
            }
            int between = i - last - 1;
            if (first >= 0 && between > 0 && between >= g) {
                told.add(first);
                told.add(last);
                first = -1;
            }
            if (first < 0) {
                first = i;
            }
            last = i;
        }
        if (first >= 0) {
            told.add(first);
            told.add(last);
        }
        return told.size() / 2;
    }

    int part(int page, int a, int b, int e) {
        if (!has(page) || a < 1 || a > b || b >= width(pages.get(page)) || e < 0 || pages.size() == 8) {
            return -1;
        }
        boolean[][] g = pages.get(page);
        int seam = b;
        for (int x = b; x >= a; x--) {
            int was = columnInk(g, seam);
            int is = columnInk(g, x);
            if (is < was || is == was && Math.abs(2 * x - a - b) <= Math.abs(2 * seam - a - b)) {
                seam = x;
            }
        }
        if (columnInk(g, seam) > e) {
            return -1;
        }
        boolean[][] left = new boolean[g.length][seam];
        boolean[][] right = new boolean[g.length][width(g) - seam];
        for (int y = 0; y < g.length; y++) {
            for (int x = 0; x < width(g); x++) {
                if (x < seam) {
                    left[y][x] = g[y][x];
                } else {
                    right[y][x - seam] = g[y][x];
                }
            }
        }
        change(page, left, pages.size());
        pages.add(right);
        return pages.size() - 1;
    }

    int back() {
        if (undo.isEmpty()) {
            return -1;
        }
        Undo u = undo.remove(undo.size() - 1);
        pages.set(u.page, u.grid);
        if (u.made >= 0 && u.made == pages.size() - 1) {
            pages.remove(u.made);
        }
        return u.page;
    }

    int told(int i) {
        if (i < 0 || i >= told.size()) {
            throw new NoSuchElementException();
        }
        return told.get(i);
    }
}
