/**
 * Nets for the fog of a dry coast, as ../shared/DOC.md tells them.
 *
 * What the text tells stands in a Coast, what deeds change in a State. Whatever is tried runs on a
 * second State, so that nothing that is asked changes what is so. All rows are made with the object
 * and used again: no call makes anything new.
 */
public final class FogNets {
    public static final int NONE = -1, UNKNOWN = -1000000001, OUTSIDE = -1000000002, NOT = -1000000003, FULL = -1000000004;

    private static final int BILLION = 1000000000;
    private static final int MOST_LETTERS = 240, MOST_FIGURES = 3;
    private static final int MOST_CELLS = 12, MOST_HOURS = 12, MOST_POSTS = 6, MOST_GOATS = 4;
    private static final int VILLAGES = 2, IMAGES = 2, WEEK = 7, EVERY_DAY = 127;
    private static final int THICK_FROM = 20, MOST_FOG = 40;
    private static final int MOST_COUNTED = 999999, MOST_CISTERN = 99999, LAST_DAY = 9000;
    private static final int MOST_PASSED = 60, MOST_TRIED = 99, MOST_DAYS_ENDS = 60, MOST_LASTS = 999;
    private static final int MOST_UNDONE = 30, MOST_GOT = 6, MOST_WRITTEN = 20;
    private static final int CANNOT_STAND = 1, BAD_NUMBER = 2, TOO_MANY = 3, HAS_POST = 4;

    private final Reader reader = new Reader();
    private Coast ridge = new Coast();
    private Coast draft = new Coast();
    private final State now = new State();
    private final State trial = new State();
    private final int[] hauls = new int[MOST_POSTS];
    private final Wind wind = new Wind();
    private final Past past = new Past();
    private final State[] images = {new State(), new State()};
    private final int[] imageSeeds = {NONE, NONE};
    private int seed = 0;
    private final Notes gotten = new Notes(MOST_GOT);
    private final Notes book = new Notes(MOST_WRITTEN);
    private final int[] parts = new int[MOST_FOG + 1];

    public FogNets() {
    }

    // ---- the coast

    public int feed(int letter) {
        if (!within(letter, 0, 255)) return OUTSIDE;
        if (reader.length >= MOST_LETTERS) return FULL;
        return reader.append(letter);
    }

    public int coast() {
        int number = reader.readAll(draft);
        if (number != 0) return -10 - number;
        Coast before = ridge;
        ridge = draft;
        draft = before;
        now.begin(ridge);
        past.many = 0;
        imageSeeds[0] = NONE;
        imageSeeds[1] = NONE;
        gotten.many = 0;
        book.many = 0;
        return ridge.posts;
    }

    public int fault() {
        return reader.faultPlace;
    }

    public int told(int what) {
        switch (what) {
            case 0: return ridge.cells;
            case 1: return ridge.burns;
            case 2: return ridge.hoursOfDay();
            case 3: return ridge.posts;
            case 4: return ridge.goats;
            case 5: return reader.length;
            case 6: return now.days;
            case 7: return now.hour;
            case 8: return now.lit ? 1 : 0;
            case 9: return now.hanging(ridge);
            case 10: return now.inJars();
            case 11: return now.spilled;
            case 12: return now.drunk;
            case 13: return gotten.many;
            case 14: return book.many;
            case 15: return past.many;
            default: return OUTSIDE;
        }
    }

    public int post(int p, int what) {
        if (!isPost(p)) return UNKNOWN;
        switch (what) {
            case 0: return at(now.cell, p);
            case 1: return at(now.mesh, p);
            case 2: return at(ridge.jarSize, p);
            case 3: return at(ridge.owner, p);
            case 4: return at(now.jar, p);
            default: return OUTSIDE;
        }
    }

    public int fog(int h, int what) {
        if (h != NONE && !within(h, 0, ridge.hours - 1)) return OUTSIDE;
        if (!within(what, 0, 1)) return OUTSIDE;
        if (h == NONE && isBare()) return NOT;
        int which = h == NONE ? now.hour : h;
        return what == 0 ? ridge.sideAt(which) : ridge.fogAt(which);
    }

    public int village(int v, int what) {
        if (!isVillage(v)) return UNKNOWN;
        switch (what) {
            case 0: return at(ridge.hangDays, v);
            case 1: return at(ridge.uses, v);
            case 2: return at(now.cistern, v);
            case 3: return at(now.thirst, v);
            case 4: return ridge.postsOf(v);
            default: return OUTSIDE;
        }
    }

    public int goat(int g, int what) {
        if (!isGoat(g)) return UNKNOWN;
        if (!within(what, 0, 1)) return OUTSIDE;
        return at(what == 0 ? ridge.goatCell : ridge.goatDrinks, g);
    }

    // ---- deeds

    public int hour(int n) {
        if (!within(n, 1, MOST_PASSED)) return OUTSIDE;
        if (isBare()) return NOT;
        if (now.days > LAST_DAY) return FULL;
        int took = 0;
        for (int i = 0; i < n; i++) {
            past.remember(now);
            took += now.passHour(ridge, wind, ridge.sideAt(now.hour), ridge.fogAt(now.hour), false);
        }
        return took;
    }

    public int carry(int v) {
        if (!isVillage(v)) return UNKNOWN;
        if (isBare()) return NOT;
        past.remember(now);
        return now.emptyJarsOf(ridge, v);
    }

    public int lick(int p, int x) {
        if (!isPost(p)) return UNKNOWN;
        if (!within(x, 1, 99)) return OUTSIDE;
        past.remember(now);
        return now.loseFromJar(p, x);
    }

    public int mesh(int p, int m) {
        if (!isPost(p)) return UNKNOWN;
        if (!within(m, 0, 9)) return OUTSIDE;
        past.remember(now);
        int before = at(now.mesh, p);
        put(now.mesh, p, m);
        return before;
    }

    public int move(int p, int a) {
        if (!isPost(p) || !isCell(a)) return UNKNOWN;
        if (now.postIn(a) != NONE) return NOT;
        past.remember(now);
        int before = at(now.cell, p);
        put(now.cell, p, a);
        return before;
    }

    public int lamp(boolean lit) {
        if (isBare()) return NOT;
        past.remember(now);
        int before = now.lit ? 1 : 0;
        now.lit = lit;
        return before;
    }

    public int drift(int n) {
        if (!within(n, 1, MOST_PASSED)) return OUTSIDE;
        if (isBare()) return NOT;
        if (now.days > LAST_DAY) return FULL;
        int took = 0;
        for (int i = 0; i < n; i++) {
            past.remember(now);
            int thickness = draw(MOST_FOG + 1);
            int side = draw(2);
            took += now.passHour(ridge, wind, side, thickness, false);
            lickByDraws();
        }
        return took;
    }

    public int undo(int n) {
        if (!within(n, 1, MOST_UNDONE)) return OUTSIDE;
        if (n > past.many) return NOT;
        past.takeBack(now, n);
        return now.days;
    }

    // ---- tried

    public int gets(int p, int n) {
        if (!isPost(p)) return UNKNOWN;
        if (!within(n, 0, MOST_TRIED)) return OUTSIDE;
        trial.become(now);
        tryHours(n);
        return at(hauls, p);
    }

    public int level(int p, int n) {
        if (!isPost(p)) return UNKNOWN;
        if (!within(n, 0, MOST_TRIED)) return OUTSIDE;
        trial.become(now);
        tryHours(n);
        return at(trial.jar, p);
    }

    public int shadow(int p) {
        if (!isPost(p)) return UNKNOWN;
        int all = now.hanging(ridge);
        blowNext(all);
        int among = at(wind.took, p);
        blowNext(all & 1 << p);
        return at(wind.took, p) - among;
    }

    public int left() {
        if (isBare()) return NOT;
        blowNext(now.hanging(ridge));
        return wind.beyond;
    }

    public int bestMesh(int p, int what) {
        if (!isPost(p)) return UNKNOWN;
        if (!within(what, 0, 1)) return OUTSIDE;
        int best = NONE, most = NONE;
        for (int m = 0; m <= 9; m++) {
            trial.become(now);
            put(trial.mesh, p, m);
            tryHours(ridge.hoursOfDay());
            if (at(hauls, p) > most) {
                most = at(hauls, p);
                best = m;
            }
        }
        return what == 0 ? best : most;
    }

    public int bestCell(int p, int what) {
        if (!isPost(p)) return UNKNOWN;
        if (!within(what, 0, 1)) return OUTSIDE;
        int best = NONE, most = NONE;
        for (int a = 0; a < MOST_CELLS; a++) {
            if (!isOpenTo(a, p, p)) continue;
            trial.become(now);
            put(trial.cell, p, a);
            tryHours(ridge.hoursOfDay());
            if (at(hauls, p) > most) {
                most = at(hauls, p);
                best = a;
            }
        }
        return what == 0 ? best : most;
    }

    public int bestTwo(int p, int q, int what) {
        if (!isPost(p) || !isPost(q) || p == q) return UNKNOWN;
        if (!within(what, 0, 1)) return OUTSIDE;
        int best = NONE, most = NONE;
        for (int a = 0; a < MOST_CELLS; a++) {
            if (!isOpenTo(a, p, q)) continue;
            for (int b = 0; b < MOST_CELLS; b++) {
                if (b == a || !isOpenTo(b, p, q)) continue;
                int lesser = lesserHaul(p, a, q, b);
                if (lesser > most) {
                    most = lesser;
                    best = 100 * a + b;
                }
            }
        }
        return what == 0 ? best : most;
    }

    public int lampCosts(int n) {
        if (!within(n, 0, MOST_TRIED)) return OUTSIDE;
        if (isBare()) return NOT;
        trial.become(now);
        trial.lit = false;
        int dark = tryHours(n);
        trial.become(now);
        trial.lit = true;
        return dark - tryHours(n);
    }

    public int thirsty(int v) {
        if (!isVillage(v)) return UNKNOWN;
        if (isBare()) return NOT;
        trial.become(now);
        int thirst = at(now.thirst, v);
        for (int i = 0; i < MOST_DAYS_ENDS * MOST_HOURS && trial.days - now.days < MOST_DAYS_ENDS; i++) {
            trial.passHour(ridge, wind, ridge.sideAt(trial.hour), ridge.fogAt(trial.hour), true);
            if (at(trial.thirst, v) > thirst) return trial.days - now.days;
        }
        return NONE;
    }

    public int lasts(int v) {
        if (!isVillage(v)) return UNKNOWN;
        int used = at(ridge.uses, v);
        if (used <= 0) return MOST_LASTS;
        return Math.min(at(now.cistern, v) / used, MOST_LASTS);
    }

    public int both() {
        if (isBare()) return NOT;
        for (int d = 0; d < WEEK; d++) {
            if (ridge.hangsOn(0, now.days + d) && ridge.hangsOn(1, now.days + d)) return d;
        }
        return NONE;
    }

    public int apart(int n) {
        if (!within(n, 0, MOST_TRIED)) return OUTSIDE;
        if (isBare()) return NOT;
        int many = 0;
        for (int d = 0; d < n; d++) {
            if (ridge.hangsOn(0, now.days + d) != ridge.hangsOn(1, now.days + d)) many++;
        }
        return many;
    }

    public int share(int x, int v) {
        if (!isVillage(v)) return UNKNOWN;
        if (!within(x, 0, 999)) return OUTSIDE;
        int all = ridge.posts;
        if (all <= 0) return 0;
        int first = x * Integer.bitCount(ridge.postsOf(0));
        int second = x * Integer.bitCount(ridge.postsOf(1));
        int rest = x - first / all - second / all;
        int lucky = first % all >= second % all ? 0 : 1;
        return (v == 0 ? first : second) / all + (v == lucky ? rest : 0);
    }

    public int led(int x, int side, int i) {
        if (!within(x, 0, 99) || !within(side, 0, 1) || !within(i, 0, x - 1)) return OUTSIDE;
        if (isBare()) return NOT;
        wind.blow(now, ridge.cells, now.hanging(ridge), side, x);
        return wind.takerOf(i);
    }

    public int yards(int g, int what) {
        if (!isGoat(g)) return UNKNOWN;
        if (!within(what, 0, 1)) return OUTSIDE;
        int from = at(ridge.goatCell, g);
        // Cells are looked at from the left, so that of like ones the left one is kept.
        int best = NONE, least = NONE;
        for (int a = 0; a < ridge.cells && a < MOST_CELLS; a++) {
            int p = now.postIn(a);
            int way = Math.abs(a - from);
            if (p != NONE && at(now.jar, p) > 0 && (best == NONE || way < least)) {
                best = p;
                least = way;
            }
        }
        return what == 0 ? least : best;
    }

    public int clear(int n, int q) {
        if (!within(n, 0, 60) || !within(q, 0, 100)) return OUTSIDE;
        long odds = BILLION;
        for (int i = 0; i < n; i++) odds = odds * q / 100;
        return (int) odds;
    }

    // ---- how thick it was

    public int got(int p, int side, int x) {
        if (!isPost(p)) return UNKNOWN;
        if (!within(side, 0, 1) || !within(x, 0, MOST_FOG)) return OUTSIDE;
        if (gotten.many >= MOST_GOT) return FULL;
        return gotten.note(p, side, x);
    }

    public int thick(int what) {
        if (!within(what, 0, 2)) return OUTSIDE;
        if (isBare()) return NOT;
        long these = fitting();
        if (what == 0) return Long.bitCount(these);
        int found = NONE;
        for (int t = 0; t <= MOST_FOG; t++) {
            boolean fits = (these >> t & 1) == 1;
            if (fits && (what == 2 || found == NONE)) found = t;
        }
        return found;
    }

    public int lookAt(int side) {
        if (!within(side, 0, 1)) return OUTSIDE;
        if (isBare()) return NOT;
        long these = fitting();
        int best = NONE, least = Long.bitCount(these);
        for (int p = 0; p < MOST_POSTS; p++) {
            if (!isPost(p)) continue;
            int part = greatestPart(these, p, side);
            if (part < least) {
                least = part;
                best = p;
            }
        }
        return best;
    }

    public int needs(int p, int side, int x) {
        if (!isPost(p)) return UNKNOWN;
        if (!within(side, 0, 1) || !within(x, 0, MOST_FOG)) return OUTSIDE;
        for (int t = 0; t <= MOST_FOG; t++) {
            if (takenOf(p, side, t) >= x) return t;
        }
        return NONE;
    }

    public int write(int p, int x) {
        if (!isPost(p)) return UNKNOWN;
        if (!within(x, 0, 99)) return OUTSIDE;
        if (book.many >= MOST_WRITTEN) return FULL;
        return book.note(p, 0, x);
    }

    public int judge() {
        for (int e = 0; e < book.many && e < MOST_WRITTEN; e++) {
            if (at(now.jar, at(book.posts, e)) != at(book.amounts, e)) return e;
        }
        return NONE;
    }

    public int tear() {
        int had = gotten.many + book.many;
        gotten.many = 0;
        book.many = 0;
        return had;
    }

    // ---- images

    public int seed(int v) {
        if (v < 0) return OUTSIDE;
        int before = seed;
        seed = v;
        return before;
    }

    public int keep(int i) {
        State image = imageOf(i);
        if (image == null) return UNKNOWN;
        image.become(now);
        put(imageSeeds, i, seed);
        past.many = 0;
        return 1;
    }

    public int goBack(int i) {
        State image = imageOf(i);
        if (image == null) return UNKNOWN;
        int kept = at(imageSeeds, i);
        if (kept == NONE) return NOT;
        now.become(image);
        seed = kept;
        past.many = 0;
        return 1;
    }

    // ---- what the calls share

    private static boolean within(int x, int least, int most) {
        return x >= least && x <= most;
    }

    /** What a row has there; 0 beyond its ends, so that no index can be wrong. */
    private static int at(int[] row, int i) {
        return i >= 0 && i < row.length ? row[i] : 0;
    }

    private static void put(int[] row, int i, int x) {
        if (i >= 0 && i < row.length) row[i] = x;
    }

    private boolean isBare() {
        return ridge.cells == 0;
    }

    private boolean isCell(int a) {
        return within(a, 0, ridge.cells - 1);
    }

    private boolean isPost(int p) {
        return within(p, 0, ridge.posts - 1);
    }

    private boolean isGoat(int g) {
        return within(g, 0, ridge.goats - 1);
    }

    private static boolean isVillage(int v) {
        return within(v, 0, VILLAGES - 1);
    }

    /** Whether a POST could stand in a CELL, if both POSTS (or one, twice told) were lifted. */
    private boolean isOpenTo(int a, int p, int q) {
        if (!isCell(a)) return false;
        int there = now.postIn(a);
        return there == NONE || there == p || there == q;
    }

    private State imageOf(int i) {
        return i >= 0 && i < IMAGES && i < images.length ? images[i] : null;
    }

    private int draw(int n) {
        seed = (int) ((seed * 1103515245L + 12345L) & 2147483647L);
        return n > 0 ? seed / 65536 % n : 0;
    }

    private void lickByDraws() {
        if (ridge.posts == 0 || draw(8) != 0) return;
        int p = draw(ridge.posts);
        now.loseFromJar(p, draw(10));
    }

    /** The trial's next n HOURS: what all nets took; hauls tells it net by net. */
    private int tryHours(int n) {
        int took = 0;
        for (int p = 0; p < MOST_POSTS; p++) hauls[p] = 0;
        for (int i = 0; i < n; i++) {
            took += trial.passHour(ridge, wind, ridge.sideAt(trial.hour), ridge.fogAt(trial.hour), false);
            for (int p = 0; p < MOST_POSTS; p++) hauls[p] += wind.took[p];
        }
        return took;
    }

    private int lesserHaul(int p, int a, int q, int b) {
        trial.become(now);
        put(trial.cell, p, a);
        put(trial.cell, q, b);
        int both = tryHours(WEEK * ridge.hoursOfDay());
        int second = 0;
        for (int k = 0; k < MOST_POSTS; k++) {
            if (ridge.owner[k] == 1) second += hauls[k];
        }
        return Math.min(both - second, second);
    }

    /** The next HOUR's fog blows by the nets of a SET of POSTS. */
    private void blowNext(int hanging) {
        int fog = now.lampedFog(ridge, ridge.fogAt(now.hour));
        wind.blow(now, ridge.cells, hanging, ridge.sideAt(now.hour), fog);
    }

    private int takenOf(int p, int side, int thickness) {
        wind.blow(now, ridge.cells, now.hanging(ridge), side, thickness);
        return at(wind.took, p);
    }

    /** THICKNESSES by which all that was GOT is so, bit t for t. */
    private long fitting() {
        long these = 0;
        for (int t = 0; t <= MOST_FOG; t++) {
            if (fitsAll(t)) these |= 1L << t;
        }
        return these;
    }

    private boolean fitsAll(int thickness) {
        for (int e = 0; e < gotten.many && e < MOST_GOT; e++) {
            int took = takenOf(at(gotten.posts, e), at(gotten.sides, e), thickness);
            if (took != at(gotten.amounts, e)) return false;
        }
        return true;
    }

    /** Of these THICKNESSES the most that a POST's net can't tell from one another. */
    private int greatestPart(long these, int p, int side) {
        for (int k = 0; k <= MOST_FOG; k++) parts[k] = 0;
        int greatest = 0;
        for (int t = 0; t <= MOST_FOG; t++) {
            if ((these >> t & 1) == 0) continue;
            int took = takenOf(p, side, t);
            int many = at(parts, took) + 1;
            put(parts, took, many);
            greatest = Math.max(greatest, many);
        }
        return greatest;
    }

    /** What a text tells. No deed changes it. */
    private static final class Coast {
        int cells;
        int burns;
        int hours;
        int posts;
        int goats;
        final int[] side = new int[MOST_HOURS];
        final int[] thickness = new int[MOST_HOURS];
        final int[] firstCell = new int[MOST_POSTS];
        final int[] firstMesh = new int[MOST_POSTS];
        final int[] jarSize = new int[MOST_POSTS];
        final int[] owner = new int[MOST_POSTS];
        final int[] hangDays = {EVERY_DAY, EVERY_DAY};
        final int[] uses = new int[VILLAGES];
        final int[] goatCell = new int[MOST_GOATS];
        final int[] goatDrinks = new int[MOST_GOATS];

        /** As without a text: a draft may still have what an older text told. */
        void wipe() {
            cells = 0;
            burns = 0;
            hours = 0;
            posts = 0;
            goats = 0;
            // A day without told HOURS has one from the left without fog.
            side[0] = 0;
            thickness[0] = 0;
            for (int p = 0; p < MOST_POSTS; p++) {
                firstCell[p] = NONE;
                owner[p] = NONE;
            }
            for (int v = 0; v < VILLAGES; v++) {
                hangDays[v] = EVERY_DAY;
                uses[v] = 0;
            }
        }

        int hoursOfDay() {
            return cells == 0 ? 0 : Math.max(hours, 1);
        }

        int sideAt(int h) {
            return at(side, h);
        }

        int fogAt(int h) {
            return at(thickness, h);
        }

        boolean hangsOn(int v, int day) {
            return (at(hangDays, v) >> day % WEEK & 1) == 1;
        }

        int postsOf(int v) {
            int set = 0;
            for (int p = 0; p < posts && p < MOST_POSTS; p++) {
                if (owner[p] == v) set |= 1 << p;
            }
            return set;
        }

        boolean hasPostIn(int a) {
            for (int p = 0; p < posts && p < MOST_POSTS; p++) {
                if (firstCell[p] == a) return true;
            }
            return false;
        }
    }

    /** THE TEXT, and how it is read up to its first fault. */
    private static final class Reader {
        final int[] letters = new int[MOST_LETTERS];
        int length = 0;
        int place = 0;
        int numberPlace = 0;
        int fault = 0;
        int faultPlace = NONE;
        boolean daysTold = false;
        boolean usesTold = false;

        int append(int letter) {
            put(letters, length, letter);
            length++;
            return length;
        }

        /** The text becomes a Coast and is empty then: the number of its fault, or 0. */
        int readAll(Coast c) {
            c.wipe();
            place = 0;
            fault = 0;
            faultPlace = NONE;
            daysTold = false;
            usesTold = false;
            // A clause takes a letter at least, so that there are no more clauses than letters.
            for (int i = 0; i < MOST_LETTERS && fault == 0; i++) {
                int word = nextLetter();
                if (word == NONE) break;
                readClause(c, word);
            }
            length = 0;
            return fault;
        }

        private int letterAt(int i) {
            return i >= 0 && i < length && i < MOST_LETTERS ? letters[i] : NONE;
        }

        /** The next letter that is no blank; NONE at the end. */
        private int nextLetter() {
            while (place < length && letterAt(place) == ' ') place++;
            return letterAt(place);
        }

        /** Only the first fault stands. */
        private void fail(int number, int where) {
            if (fault != 0) return;
            fault = number;
            faultPlace = where;
        }

        private void readClause(Coast c, int word) {
            int number = faultOfWord(c, word);
            if (number != 0) {
                fail(number, place);
                return;
            }
            place++;
            switch (word) {
                case 'f':
                    readCells(c);
                    break;
                case 'h':
                    readHour(c);
                    break;
                case 'p':
                    readPost(c);
                    break;
                case 'd':
                    readPair(c.hangDays, EVERY_DAY);
                    daysTold = true;
                    break;
                case 'u':
                    readPair(c.uses, 99);
                    usesTold = true;
                    break;
                default:
                    readGoat(c);
                    break;
            }
        }

        private int faultOfWord(Coast c, int word) {
            if (c.cells == 0) return word == 'f' ? 0 : CANNOT_STAND;
            switch (word) {
                case 'f': return TOO_MANY;
                case 'h': return c.hours < MOST_HOURS ? 0 : TOO_MANY;
                case 'p': return c.posts < MOST_POSTS ? 0 : TOO_MANY;
                case 'd': return daysTold ? TOO_MANY : 0;
                case 'u': return usesTold ? TOO_MANY : 0;
                case 'g': return c.goats < MOST_GOATS ? 0 : TOO_MANY;
                default: return CANNOT_STAND;
            }
        }

        private void readCells(Coast c) {
            int cells = readNumber(1, MOST_CELLS);
            int burns = readNumber(0, 20);
            readEnd();
            c.cells = cells;
            c.burns = burns;
        }

        private void readHour(Coast c) {
            int side = readNumber(0, 1);
            int thickness = readNumber(0, MOST_FOG);
            readEnd();
            put(c.side, c.hours, side);
            put(c.thickness, c.hours, thickness);
            c.hours++;
        }

        private void readPost(Coast c) {
            int cell = readNumber(0, c.cells - 1);
            if (c.hasPostIn(cell)) fail(HAS_POST, numberPlace);
            int mesh = readNumber(0, 9);
            int size = readNumber(1, 99);
            int owner = readNumber(0, VILLAGES - 1);
            readEnd();
            put(c.firstCell, c.posts, cell);
            put(c.firstMesh, c.posts, mesh);
            put(c.jarSize, c.posts, size);
            put(c.owner, c.posts, owner);
            c.posts++;
        }

        private void readPair(int[] row, int most) {
            put(row, 0, readNumber(0, most));
            put(row, 1, readNumber(0, most));
            readEnd();
        }

        private void readGoat(Coast c) {
            int cell = readNumber(0, c.cells - 1);
            int drinks = readNumber(1, 20);
            readEnd();
            put(c.goatCell, c.goats, cell);
            put(c.goatDrinks, c.goats, drinks);
            c.goats++;
        }

        /** The next NUMBER; behind a fault, what it answers is of no use to anyone. */
        private int readNumber(int least, int most) {
            if (fault != 0) return least;
            int figure = nextLetter();
            numberPlace = place;
            int figures = 0;
            int value = 0;
            while (place < length && within(figure, '0', '9')) {
                // More figures are a fault anyway: they are not added, so that nothing runs over.
                if (figures < MOST_FIGURES) value = 10 * value + figure - '0';
                figures++;
                place++;
                figure = letterAt(place);
            }
            if (figures == 0) fail(CANNOT_STAND, numberPlace);
            else if (figures > MOST_FIGURES || !within(value, least, most)) fail(BAD_NUMBER, numberPlace);
            return value;
        }

        private void readEnd() {
            if (fault != 0) return;
            if (nextLetter() == ';') place++;
            else fail(CANNOT_STAND, place);
        }
    }

    /** A fog's way over the CELLS: what each net takes of it, and what goes beyond. */
    private static final class Wind {
        final int[] took = new int[MOST_POSTS];
        final int[] order = new int[MOST_CELLS];
        int beyond = 0;

        /** Blows by the nets of a SET of POSTS. */
        void blow(State s, int cells, int hanging, int side, int fog) {
            lineUp(s, cells, hanging, side);
            beyond = fog;
            for (int i = 0; i < MOST_CELLS; i++) {
                int p = order[i];
                if (p < 0 || p >= MOST_POSTS) continue;
                int tenths = beyond >= THICK_FROM ? s.mesh[p] : 9 - s.mesh[p];
                took[p] = beyond * tenths / 10;
                beyond -= took[p];
            }
        }

        /** Which POST's net drop i of the latest fog goes to; NONE. */
        int takerOf(int i) {
            int gone = 0;
            for (int k = 0; k < MOST_CELLS; k++) {
                int p = order[k];
                if (p == NONE) continue;
                gone += at(took, p);
                if (i < gone) return p;
            }
            return NONE;
        }

        /** The order of POSTS downwind, CELL by CELL; NONE where no net hangs. */
        private void lineUp(State s, int cells, int hanging, int side) {
            for (int i = 0; i < MOST_CELLS; i++) order[i] = NONE;
            for (int p = 0; p < MOST_POSTS; p++) {
                took[p] = 0;
                if ((hanging >> p & 1) == 1) put(order, side == 0 ? s.cell[p] : cells - 1 - s.cell[p], p);
            }
        }
    }

    /** All that deeds change but the notes: what is undone, tried and kept in images. */
    private static final class State {
        int days = 0;
        int hour = 0;
        boolean lit = false;
        int spilled = 0;
        int drunk = 0;
        final int[] cell = new int[MOST_POSTS];
        final int[] mesh = new int[MOST_POSTS];
        final int[] jar = new int[MOST_POSTS];
        final int[] cistern = new int[VILLAGES];
        final int[] thirst = new int[VILLAGES];

        void begin(Coast c) {
            days = 0;
            hour = 0;
            lit = false;
            spilled = 0;
            drunk = 0;
            for (int p = 0; p < MOST_POSTS; p++) {
                cell[p] = c.firstCell[p];
                mesh[p] = c.firstMesh[p];
                jar[p] = 0;
            }
            for (int v = 0; v < VILLAGES; v++) {
                cistern[v] = 0;
                thirst[v] = 0;
            }
        }

        void become(State s) {
            days = s.days;
            hour = s.hour;
            lit = s.lit;
            spilled = s.spilled;
            drunk = s.drunk;
            System.arraycopy(s.cell, 0, cell, 0, MOST_POSTS);
            System.arraycopy(s.mesh, 0, mesh, 0, MOST_POSTS);
            System.arraycopy(s.jar, 0, jar, 0, MOST_POSTS);
            System.arraycopy(s.cistern, 0, cistern, 0, VILLAGES);
            System.arraycopy(s.thirst, 0, thirst, 0, VILLAGES);
        }

        /** POSTS whose nets HANG. */
        int hanging(Coast c) {
            int set = 0;
            for (int v = 0; v < VILLAGES; v++) {
                if (c.hangsOn(v, days)) set |= c.postsOf(v);
            }
            return set;
        }

        int postIn(int a) {
            for (int p = 0; p < MOST_POSTS; p++) {
                if (cell[p] == a) return p;
            }
            return NONE;
        }

        int inJars() {
            int all = 0;
            for (int p = 0; p < MOST_POSTS; p++) all += jar[p];
            return all;
        }

        int lampedFog(Coast c, int fog) {
            return lit ? Math.max(fog - c.burns, 0) : fog;
        }

        /** An HOUR, with JARS carried ahead of GOATS or not: what all nets took, told in w net by net. */
        int passHour(Coast c, Wind w, int side, int fog, boolean carried) {
            w.blow(this, c.cells, hanging(c), side, lampedFog(c, fog));
            int all = 0;
            for (int p = 0; p < MOST_POSTS; p++) {
                jar[p] += w.took[p];
                int over = Math.max(jar[p] - c.jarSize[p], 0);
                jar[p] -= over;
                spilled = counted(spilled + over);
                all += w.took[p];
            }
            hour++;
            if (hour >= c.hoursOfDay()) endDay(c, carried);
            return all;
        }

        private void endDay(Coast c, boolean carried) {
            if (carried) {
                emptyJarsOf(c, 0);
                emptyJarsOf(c, 1);
            }
            for (int g = 0; g < c.goats && g < MOST_GOATS; g++) {
                int p = postIn(c.goatCell[g]);
                int had = at(jar, p);
                int has = loseFromJar(p, c.goatDrinks[g]);
                drunk = counted(drunk + had - has);
            }
            for (int v = 0; v < VILLAGES; v++) {
                int used = Math.min(c.uses[v], cistern[v]);
                cistern[v] -= used;
                thirst[v] = counted(thirst[v] + c.uses[v] - used);
            }
            days++;
            hour = 0;
        }

        int emptyJarsOf(Coast c, int v) {
            int had = 0;
            for (int p = 0; p < MOST_POSTS; p++) {
                if (c.owner[p] != v) continue;
                had += jar[p];
                jar[p] = 0;
            }
            put(cistern, v, Math.min(at(cistern, v) + had, MOST_CISTERN));
            return had;
        }

        /** A JAR has x less, 0 at least: what it has then (0, where there is no such POST). */
        int loseFromJar(int p, int x) {
            put(jar, p, Math.max(at(jar, p) - x, 0));
            return at(jar, p);
        }

        private static int counted(int x) {
            return Math.min(x, MOST_COUNTED);
        }
    }

    /** How it was ahead of the latest deeds: a ring, in which the oldest gives way. */
    private static final class Past {
        final State[] ring = new State[MOST_UNDONE];
        int oldest = 0;
        int many = 0;

        Past() {
            for (int i = 0; i < MOST_UNDONE; i++) ring[i] = new State();
        }

        void remember(State s) {
            if (many < MOST_UNDONE) many++;
            else oldest = (oldest + 1) % MOST_UNDONE;
            State place = stateAt(many - 1);
            if (place != null) place.become(s);
        }

        void takeBack(State s, int n) {
            State before = stateAt(many - n);
            if (before == null) return;
            s.become(before);
            many -= n;
        }

        private State stateAt(int i) {
            int k = (oldest + i) % MOST_UNDONE;
            return i >= 0 && k >= 0 && k < MOST_UNDONE ? ring[k] : null;
        }
    }

    /** What was noted of POSTS: what nets got, or THE BOOK (which has no sides). */
    private static final class Notes {
        final int[] posts;
        final int[] sides;
        final int[] amounts;
        int many = 0;

        Notes(int most) {
            int rows = Math.max(most, 0);
            posts = new int[rows];
            sides = new int[rows];
            amounts = new int[rows];
        }

        int note(int p, int side, int x) {
            put(posts, many, p);
            put(sides, many, side);
            put(amounts, many, x);
            many++;
            return many;
        }
    }
}
