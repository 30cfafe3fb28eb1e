import java.util.ArrayList;
import java.util.Arrays;
import java.util.List;
import java.util.TreeSet;

/**
 * The document once more, written plainly and without regard to cost: every state is a copy, every
 * fog goes drop by drop in its words. ModelTest compares the class with it.
 */
final class PlainModel {
    static final int NONE = -1, UNKNOWN = -1000000001, OUTSIDE = -1000000002, NOT = -1000000003, FULL = -1000000004;

    private static final class Fault extends Exception {
        private static final long serialVersionUID = 1L;
        final int number;
        final int where;

        Fault(int number, int where) {
            this.number = number;
            this.where = where;
        }
    }

    private static final class Post {
        int cell, mesh, size, village, has;

        Post copy() {
            Post p = new Post();
            p.cell = cell;
            p.mesh = mesh;
            p.size = size;
            p.village = village;
            p.has = has;
            return p;
        }
    }

    private static final class World {
        int days, hour, spilled, drank;
        boolean lit;
        int[] cistern = {0, 0};
        int[] thirst = {0, 0};
        List<Post> posts = new ArrayList<>();

        World copy() {
            World w = new World();
            w.days = days;
            w.hour = hour;
            w.spilled = spilled;
            w.drank = drank;
            w.lit = lit;
            w.cistern = cistern.clone();
            w.thirst = thirst.clone();
            for (Post p : posts) w.posts.add(p.copy());
            return w;
        }
    }

    private static final class Land {
        int cells = 0, burns = 0;
        List<int[]> hours = new ArrayList<>();
        List<int[]> posts = new ArrayList<>();
        List<int[]> goats = new ArrayList<>();
        int[] days = null;
        int[] uses = null;

        int daySet(int v) {
            return days == null ? 127 : days[v];
        }

        int use(int v) {
            return uses == null ? 0 : uses[v];
        }

        int dayLength() {
            if (cells == 0) return 0;
            return hours.isEmpty() ? 1 : hours.size();
        }
    }

    private final StringBuilder text = new StringBuilder();
    private int faultPlace = NONE;
    private Land land = new Land();
    private World world = new World();
    private final List<World> before = new ArrayList<>();
    private final World[] image = new World[2];
    private final long[] imageSeed = new long[2];
    private long seed = 0;
    private final List<int[]> gots = new ArrayList<>();
    private final List<int[]> entries = new ArrayList<>();

    // ---- the text

    public int feed(int letter) {
        if (letter < 0 || letter > 255) return OUTSIDE;
        if (text.length() == 240) return FULL;
        text.append((char) letter);
        return text.length();
    }

    public int coast() {
        String told = text.toString();
        text.setLength(0);
        Land read;
        try {
            read = read(told);
        } catch (Fault f) {
            faultPlace = f.where;
            return -10 - f.number;
        }
        faultPlace = NONE;
        land = read;
        world = new World();
        for (int[] p : land.posts) {
            Post post = new Post();
            post.cell = p[0];
            post.mesh = p[1];
            post.size = p[2];
            post.village = p[3];
            world.posts.add(post);
        }
        before.clear();
        image[0] = null;
        image[1] = null;
        gots.clear();
        entries.clear();
        return land.posts.size();
    }

    /** A clause is a word's letter, what its numbers may be, and ';'. */
    private static Land read(String told) throws Fault {
        Land l = new Land();
        int at = skip(told, 0);
        while (at < told.length()) {
            char word = told.charAt(at);
            String words = "fhpdug";
            if (words.indexOf(word) < 0 || l.cells == 0 && word != 'f') throw new Fault(1, at);
            boolean again = word == 'f' && l.cells > 0
                    || word == 'd' && l.days != null
                    || word == 'u' && l.uses != null
                    || word == 'h' && l.hours.size() == 12
                    || word == 'p' && l.posts.size() == 6
                    || word == 'g' && l.goats.size() == 4;
            if (again) throw new Fault(3, at);
            at = skip(told, at + 1);
            int[][] bounds = bounds(word, l.cells);
            int[] numbers = new int[bounds.length];
            for (int k = 0; k < bounds.length; k++) {
                int end = at;
                while (end < told.length() && told.charAt(end) >= '0' && told.charAt(end) <= '9') end++;
                if (end == at) throw new Fault(1, at);
                if (end - at > 3) throw new Fault(2, at);
                int n = Integer.parseInt(told.substring(at, end));
                if (n < bounds[k][0] || n > bounds[k][1]) throw new Fault(2, at);
                if (word == 'p' && k == 0) {
                    for (int[] p : l.posts) {
                        if (p[0] == n) throw new Fault(4, at);
                    }
                }
                numbers[k] = n;
                at = skip(told, end);
            }
            if (at >= told.length() || told.charAt(at) != ';') throw new Fault(1, at);
            at = skip(told, at + 1);
            switch (word) {
                case 'f' -> {
                    l.cells = numbers[0];
                    l.burns = numbers[1];
                }
                case 'h' -> l.hours.add(numbers);
                case 'p' -> l.posts.add(numbers);
                case 'd' -> l.days = numbers;
                case 'u' -> l.uses = numbers;
                default -> l.goats.add(numbers);
            }
        }
        return l;
    }

    private static int[][] bounds(char word, int cells) {
        return switch (word) {
            case 'f' -> new int[][] {{1, 12}, {0, 20}};
            case 'h' -> new int[][] {{0, 1}, {0, 40}};
            case 'p' -> new int[][] {{0, cells - 1}, {0, 9}, {1, 99}, {0, 1}};
            case 'd' -> new int[][] {{0, 127}, {0, 127}};
            case 'u' -> new int[][] {{0, 99}, {0, 99}};
            default -> new int[][] {{0, cells - 1}, {1, 20}};
        };
    }

    private static int skip(String told, int at) {
        int i = at;
        while (i < told.length() && told.charAt(i) == ' ') i++;
        return i;
    }

    public int fault() {
        return faultPlace;
    }

    public int told(int what) {
        int jars = 0;
        int hang = 0;
        for (int p = 0; p < world.posts.size(); p++) {
            jars += world.posts.get(p).has;
            if (hangs(world, p)) hang += 1 << p;
        }
        int[] all = {land.cells, land.burns, land.dayLength(), land.posts.size(), land.goats.size(), text.length(),
            world.days, world.hour, world.lit ? 1 : 0, hang, jars, world.spilled, world.drank, gots.size(),
            entries.size(), before.size()};
        return what < 0 || what > 15 ? OUTSIDE : all[what];
    }

    public int post(int p, int what) {
        if (noPost(p)) return UNKNOWN;
        Post x = world.posts.get(p);
        int[] all = {x.cell, x.mesh, x.size, x.village, x.has};
        return what < 0 || what > 4 ? OUTSIDE : all[what];
    }

    public int fog(int h, int what) {
        if (h < NONE || h >= land.hours.size() || what < 0 || what > 1) return OUTSIDE;
        if (h == NONE && land.cells == 0) return NOT;
        return toldHour(h == NONE ? world.hour : h)[what];
    }

    public int village(int v, int what) {
        if (v != 0 && v != 1) return UNKNOWN;
        int set = 0;
        for (int p = 0; p < land.posts.size(); p++) {
            if (land.posts.get(p)[3] == v) set += 1 << p;
        }
        int[] all = {land.daySet(v), land.use(v), world.cistern[v], world.thirst[v], set};
        return what < 0 || what > 4 ? OUTSIDE : all[what];
    }

    public int goat(int g, int what) {
        if (g < 0 || g >= land.goats.size()) return UNKNOWN;
        return what < 0 || what > 1 ? OUTSIDE : land.goats.get(g)[what];
    }

    // ---- how things go

    private boolean noPost(int p) {
        return p < 0 || p >= land.posts.size();
    }

    private int[] toldHour(int h) {
        return land.hours.isEmpty() ? new int[] {0, 0} : land.hours.get(h);
    }

    private boolean hangs(World w, int p) {
        return (land.daySet(land.posts.get(p)[3]) >> w.days % 7) % 2 == 1;
    }

    /** The posts as a fog from a side meets them; those of the set alone. */
    private List<Integer> downwind(World w, int side, int set) {
        List<Integer> met = new ArrayList<>();
        for (int i = 0; i < land.cells; i++) {
            int cell = side == 0 ? i : land.cells - 1 - i;
            for (int p = 0; p < w.posts.size(); p++) {
                if (w.posts.get(p).cell == cell && (set >> p & 1) == 1) met.add(p);
            }
        }
        return met;
    }

    private int hangingSet(World w) {
        int set = 0;
        for (int p = 0; p < w.posts.size(); p++) {
            if (hangs(w, p)) set |= 1 << p;
        }
        return set;
    }

    /** What each post of the set takes; in the last place what goes beyond. */
    private int[] blow(World w, int side, int fog, int set) {
        int[] takes = new int[w.posts.size() + 1];
        int there = fog;
        for (int p : downwind(w, side, set)) {
            int mesh = w.posts.get(p).mesh;
            int takesNow = there >= 20 ? there * mesh / 10 : there * (9 - mesh) / 10;
            takes[p] = takesNow;
            there -= takesNow;
        }
        takes[w.posts.size()] = there;
        return takes;
    }

    private int lamped(World w, int fog) {
        return w.lit ? Math.max(0, fog - land.burns) : fog;
    }

    private int[] pass(World w, int side, int fog, boolean carried) {
        int[] takes = blow(w, side, lamped(w, fog), hangingSet(w));
        for (int p = 0; p < w.posts.size(); p++) {
            Post x = w.posts.get(p);
            x.has += takes[p];
            if (x.has > x.size) {
                w.spilled = Math.min(999999, w.spilled + x.has - x.size);
                x.has = x.size;
            }
        }
        w.hour++;
        if (w.hour == land.dayLength()) {
            if (carried) {
                carryIn(w, 0);
                carryIn(w, 1);
            }
            for (int[] g : land.goats) {
                for (Post x : w.posts) {
                    if (x.cell != g[0]) continue;
                    int drinks = Math.min(g[1], x.has);
                    x.has -= drinks;
                    w.drank = Math.min(999999, w.drank + drinks);
                }
            }
            for (int v = 0; v < 2; v++) {
                int misses = land.use(v) - w.cistern[v];
                w.cistern[v] = Math.max(0, -misses);
                if (misses > 0) w.thirst[v] = Math.min(999999, w.thirst[v] + misses);
            }
            w.days++;
            w.hour = 0;
        }
        return Arrays.copyOf(takes, w.posts.size());
    }

    private int[] passTold(World w, boolean carried) {
        int[] h = toldHour(w.hour);
        return pass(w, h[0], h[1], carried);
    }

    private int carryIn(World w, int v) {
        int had = 0;
        for (Post x : w.posts) {
            if (x.village == v) {
                had += x.has;
                x.has = 0;
            }
        }
        w.cistern[v] = Math.min(99999, w.cistern[v] + had);
        return had;
    }

    private int[] tryFor(World w, int n) {
        int[] sums = new int[w.posts.size()];
        for (int i = 0; i < n; i++) {
            int[] takes = passTold(w, false);
            for (int p = 0; p < sums.length; p++) sums[p] += takes[p];
        }
        return sums;
    }

    private static int sum(int[] row) {
        return Arrays.stream(row).sum();
    }

    // ---- deeds

    private void remember() {
        before.add(world.copy());
        if (before.size() > 30) before.remove(0);
    }

    private int passable(int n) {
        if (n < 1 || n > 60) return OUTSIDE;
        if (land.cells == 0) return NOT;
        return world.days > 9000 ? FULL : 0;
    }

    public int hour(int n) {
        if (passable(n) != 0) return passable(n);
        int took = 0;
        for (int i = 0; i < n; i++) {
            remember();
            took += sum(passTold(world, false));
        }
        return took;
    }

    public int carry(int v) {
        if (v != 0 && v != 1) return UNKNOWN;
        if (land.cells == 0) return NOT;
        remember();
        return carryIn(world, v);
    }

    public int lick(int p, int x) {
        if (noPost(p)) return UNKNOWN;
        if (x < 1 || x > 99) return OUTSIDE;
        remember();
        Post post = world.posts.get(p);
        post.has = Math.max(0, post.has - x);
        return post.has;
    }

    public int mesh(int p, int m) {
        if (noPost(p)) return UNKNOWN;
        if (m < 0 || m > 9) return OUTSIDE;
        remember();
        int was = world.posts.get(p).mesh;
        world.posts.get(p).mesh = m;
        return was;
    }

    public int move(int p, int a) {
        if (noPost(p) || a < 0 || a >= land.cells) return UNKNOWN;
        for (Post x : world.posts) {
            if (x.cell == a) return NOT;
        }
        remember();
        int was = world.posts.get(p).cell;
        world.posts.get(p).cell = a;
        return was;
    }

    public int lamp(boolean lit) {
        if (land.cells == 0) return NOT;
        remember();
        boolean was = world.lit;
        world.lit = lit;
        return was ? 1 : 0;
    }

    private int draw(int n) {
        seed = (seed * 1103515245L + 12345L) % 2147483648L;
        return (int) (seed / 65536 % n);
    }

    public int drift(int n) {
        if (passable(n) != 0) return passable(n);
        int took = 0;
        for (int i = 0; i < n; i++) {
            remember();
            int fog = draw(41);
            int side = draw(2) == 0 ? 0 : 1;
            took += sum(pass(world, side, fog, false));
            if (!world.posts.isEmpty() && draw(8) == 0) {
                Post x = world.posts.get(draw(world.posts.size()));
                x.has = Math.max(0, x.has - draw(10));
            }
        }
        return took;
    }

    public int undo(int n) {
        if (n < 1 || n > 30) return OUTSIDE;
        if (before.size() < n) return NOT;
        for (int i = 0; i < n; i++) world = before.remove(before.size() - 1);
        return world.days;
    }

    // ---- tried

    public int gets(int p, int n) {
        if (noPost(p)) return UNKNOWN;
        return n < 0 || n > 99 ? OUTSIDE : tryFor(world.copy(), n)[p];
    }

    public int level(int p, int n) {
        if (noPost(p)) return UNKNOWN;
        if (n < 0 || n > 99) return OUTSIDE;
        World w = world.copy();
        tryFor(w, n);
        return w.posts.get(p).has;
    }

    private int[] next(int set) {
        int[] h = toldHour(world.hour);
        return blow(world, h[0], lamped(world, h[1]), set);
    }

    public int shadow(int p) {
        if (noPost(p)) return UNKNOWN;
        if (!hangs(world, p)) return 0;
        return next(1 << p)[p] - next(hangingSet(world))[p];
    }

    public int left() {
        return land.cells == 0 ? NOT : next(hangingSet(world))[world.posts.size()];
    }

    public int bestMesh(int p, int what) {
        if (noPost(p)) return UNKNOWN;
        if (what != 0 && what != 1) return OUTSIDE;
        int[] best = {-1, -1};
        for (int m = 9; m >= 0; m--) {
            World w = world.copy();
            w.posts.get(p).mesh = m;
            int much = tryFor(w, land.dayLength())[p];
            if (much >= best[1]) best = new int[] {m, much};
        }
        return best[what];
    }

    /** Cells with no post, and those of the posts told. */
    private TreeSet<Integer> openCells(int... movers) {
        TreeSet<Integer> open = new TreeSet<>();
        for (int a = 0; a < land.cells; a++) open.add(a);
        for (Post x : world.posts) open.remove(x.cell);
        for (int p : movers) open.add(world.posts.get(p).cell);
        return open;
    }

    public int bestCell(int p, int what) {
        if (noPost(p)) return UNKNOWN;
        if (what != 0 && what != 1) return OUTSIDE;
        int[] best = {-1, -1};
        for (int a : openCells(p).descendingSet()) {
            World w = world.copy();
            w.posts.get(p).cell = a;
            int much = tryFor(w, land.dayLength())[p];
            if (much >= best[1]) best = new int[] {a, much};
        }
        return best[what];
    }

    public int bestTwo(int p, int q, int what) {
        if (noPost(p) || noPost(q) || p == q) return UNKNOWN;
        if (what != 0 && what != 1) return OUTSIDE;
        int[] best = {-1, -1};
        for (int a : openCells(p, q).descendingSet()) {
            for (int b : openCells(p, q).descendingSet()) {
                if (a == b) continue;
                World w = world.copy();
                w.posts.get(p).cell = a;
                w.posts.get(q).cell = b;
                int[] sums = tryFor(w, 7 * land.dayLength());
                int[] of = {0, 0};
                for (int k = 0; k < sums.length; k++) of[w.posts.get(k).village] += sums[k];
                int much = Math.min(of[0], of[1]);
                if (much >= best[1]) best = new int[] {100 * a + b, much};
            }
        }
        return best[what];
    }

    public int lampCosts(int n) {
        if (n < 0 || n > 99) return OUTSIDE;
        if (land.cells == 0) return NOT;
        World lit = world.copy();
        World unlit = world.copy();
        lit.lit = true;
        unlit.lit = false;
        return sum(tryFor(unlit, n)) - sum(tryFor(lit, n));
    }

    public int thirsty(int v) {
        if (v != 0 && v != 1) return UNKNOWN;
        if (land.cells == 0) return NOT;
        World w = world.copy();
        for (int k = 1; k <= 60; k++) {
            do {
                passTold(w, true);
            } while (w.hour != 0);
            if (w.thirst[v] > world.thirst[v]) return k;
        }
        return NONE;
    }

    public int lasts(int v) {
        if (v != 0 && v != 1) return UNKNOWN;
        return land.use(v) == 0 ? 999 : Math.min(999, world.cistern[v] / land.use(v));
    }

    private boolean dayOf(int v, int ahead) {
        return (land.daySet(v) & 1 << (world.days + ahead) % 7) != 0;
    }

    public int both() {
        if (land.cells == 0) return NOT;
        for (int d = 0; d <= 6; d++) {
            if (dayOf(0, d) && dayOf(1, d)) return d;
        }
        return NONE;
    }

    public int apart(int n) {
        if (n < 0 || n > 99) return OUTSIDE;
        if (land.cells == 0) return NOT;
        int many = 0;
        for (int d = 0; d < n; d++) {
            if (dayOf(0, d) ^ dayOf(1, d)) many++;
        }
        return many;
    }

    public int share(int x, int v) {
        if (v != 0 && v != 1) return UNKNOWN;
        if (x < 0 || x > 999) return OUTSIDE;
        int all = land.posts.size();
        if (all == 0) return 0;
        int[] many = {0, 0};
        for (int[] p : land.posts) many[p[3]]++;
        int[] share = {x * many[0] / all, x * many[1] / all};
        if (share[0] + share[1] < x) share[x * many[1] % all > x * many[0] % all ? 1 : 0]++;
        return share[v];
    }

    public int led(int x, int side, int i) {
        if (x < 0 || x > 99 || side < 0 || side > 1 || i < 0 || i >= x) return OUTSIDE;
        if (land.cells == 0) return NOT;
        int[] takes = blow(world, side, x, hangingSet(world));
        List<Integer> drops = new ArrayList<>();
        for (int p : downwind(world, side, hangingSet(world))) {
            for (int k = 0; k < takes[p]; k++) drops.add(p);
        }
        return i < drops.size() ? drops.get(i) : NONE;
    }

    public int yards(int g, int what) {
        if (g < 0 || g >= land.goats.size()) return UNKNOWN;
        if (what != 0 && what != 1) return OUTSIDE;
        int from = land.goats.get(g)[0];
        for (int d = 0; d < 12; d++) {
            for (int cell : new int[] {from - d, from + d}) {
                for (int p = 0; p < world.posts.size(); p++) {
                    Post x = world.posts.get(p);
                    if (x.cell == cell && x.has > 0) return what == 0 ? d : p;
                }
            }
        }
        return NONE;
    }

    public int clear(int n, int q) {
        if (n < 0 || n > 60 || q < 0 || q > 100) return OUTSIDE;
        long odds = 1000000000L;
        for (int i = 0; i < n; i++) odds = odds * q / 100;
        return (int) odds;
    }

    // ---- how thick it was

    public int got(int p, int side, int x) {
        if (noPost(p)) return UNKNOWN;
        if (side < 0 || side > 1 || x < 0 || x > 40) return OUTSIDE;
        if (gots.size() == 6) return FULL;
        gots.add(new int[] {p, side, x});
        return gots.size();
    }

    private int takes(int p, int side, int thickness) {
        return blow(world, side, thickness, hangingSet(world))[p];
    }

    private List<Integer> thicknesses() {
        List<Integer> all = new ArrayList<>();
        for (int t = 0; t <= 40; t++) {
            boolean fits = true;
            for (int[] g : gots) fits = fits && takes(g[0], g[1], t) == g[2];
            if (fits) all.add(t);
        }
        return all;
    }

    public int thick(int what) {
        if (what < 0 || what > 2) return OUTSIDE;
        if (land.cells == 0) return NOT;
        List<Integer> all = thicknesses();
        if (what == 0) return all.size();
        if (all.isEmpty()) return NONE;
        return what == 1 ? all.get(0) : all.get(all.size() - 1);
    }

    public int lookAt(int side) {
        if (side < 0 || side > 1) return OUTSIDE;
        if (land.cells == 0) return NOT;
        List<Integer> all = thicknesses();
        int best = NONE;
        int least = all.size();
        for (int p = 0; p < world.posts.size(); p++) {
            int greatest = 0;
            for (int k = 0; k <= 40; k++) {
                int part = 0;
                for (int t : all) {
                    if (takes(p, side, t) == k) part++;
                }
                greatest = Math.max(greatest, part);
            }
            if (greatest < least) {
                least = greatest;
                best = p;
            }
        }
        return best;
    }

    public int needs(int p, int side, int x) {
        if (noPost(p)) return UNKNOWN;
        if (side < 0 || side > 1 || x < 0 || x > 40) return OUTSIDE;
        for (int t = 0; t <= 40; t++) {
            if (takes(p, side, t) >= x) return t;
        }
        return NONE;
    }

    public int write(int p, int x) {
        if (noPost(p)) return UNKNOWN;
        if (x < 0 || x > 99) return OUTSIDE;
        if (entries.size() == 20) return FULL;
        entries.add(new int[] {p, x});
        return entries.size();
    }

    public int judge() {
        for (int e = 0; e < entries.size(); e++) {
            if (world.posts.get(entries.get(e)[0]).has != entries.get(e)[1]) return e;
        }
        return NONE;
    }

    public int tear() {
        int had = gots.size() + entries.size();
        gots.clear();
        entries.clear();
        return had;
    }

    // ---- images

    public int seed(int v) {
        if (v < 0) return OUTSIDE;
        int was = (int) seed;
        seed = v;
        return was;
    }

    public int keep(int i) {
        if (i != 0 && i != 1) return UNKNOWN;
        image[i] = world.copy();
        imageSeed[i] = seed;
        before.clear();
        return 1;
    }

    public int goBack(int i) {
        if (i != 0 && i != 1) return UNKNOWN;
        if (image[i] == null) return NOT;
        world = image[i].copy();
        seed = imageSeed[i];
        before.clear();
        return 1;
    }
}
