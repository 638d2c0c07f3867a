/**
 * The hole that was moved: ground in cells, the holes in it, and the laws by which a hole of now is
 * one of then. The words in capitals (CELL, HOLE, LAW, IMAGE, ..) are the document's own.
 */
public final class HoleMoved {
    public static final int BAD = -1, FULL = -2, FINDING = -3, STATE = -4, SPENT = -6, NONE = -9;

    private static final int NOTHING = 1, BEYOND = 2, UNLIKE = 3, NOUGHT = 4, SIZE = 5;
    private static final int FINDINGS_MOST = 5;
    private static final int MISSING = -1;

    private static final int ROWS = 6, ROW_MOST = 40;
    private static final int TEXTS = 4, TEXT_MOST = 60;
    private static final int IMAGES = 3;
    private static final int LINES_MOST = 4, COLUMNS_LEAST = 2, COLUMNS_MOST = 4, CELLS_MOST = 16;
    // As many as there are black squares on a board of four by four.
    private static final int HOLES_MOST = 8;
    private static final int LAWS_MOST = 6;
    private static final int DEEDS_MOST = 40;
    private static final int DEEPEST = 5;
    private static final int PERSONS = 4;
    private static final int BLANK = 32;

    private static final int PLACE = 0, RIM = 1, SHAPE = 2, BULK = 3, TURNED = 4, DEEP = 5;
    private static final int[] LETTERS = {112, 114, 115, 98, 116, 100};
    // What each KIND is besides: a RIM is a PLACE, a SHAPE is a RIM, ..
    private static final int[] WIDER_KINDS = {-1, PLACE, RIM, PLACE, SHAPE, BULK};

    private static final int LOT_FACTOR = 48271, LOT_MODULUS = 2147483647;
    private static final int TWELVE = 12;
    private static final int RAINS_MOST = 8;
    private static final int HEAPS_MOST = 6, HEAP_LARGEST = 80;
    private static final int JOIN_MOST = 4, PART_MOST = 3, STEAL_MOST = 3;
    // There are no more sets of 1 to 4 CELLS, all of as many, than those of 4 among 16.
    private static final int SETS_MOST = 1820;
    private static final int FILLED_MARK = 100;
    private static final int COUNTS = 10, CELL_TELLS = 3, HOLE_TELLS = 5;

    private final Strip[] rows = new Strip[ROWS];
    private final Strip[] texts = new Strip[TEXTS];
    private final Reader reader = new Reader();
    private final Land land = new Land();
    private final Ground now = new Ground(land);
    private final Ground[] images = new Ground[IMAGES];
    private final Law[] kinds = new Law[LETTERS.length];
    private final Law[] laws = new Law[LAWS_MOST];
    private int lawCount;
    private final Deeds deeds = new Deeds();
    private final Thief thief = new Thief(land);
    private final int[] owed = new int[HOLES_MOST];

    private int asked;
    private long upper;
    private long lower = 1;
    private int finding;
    private final int[] findings = new int[FINDINGS_MOST + 1];

    public HoleMoved() {
        for (int r = 0; r < rows.length; r++) {
            rows[r] = new Strip(ROW_MOST);
        }
        for (int t = 0; t < texts.length; t++) {
            texts[t] = new Strip(TEXT_MOST);
        }
        for (int k = 0; k < images.length; k++) {
            images[k] = new Ground(land);
        }
        for (int kind = 0; kind < kinds.length; kind++) {
            kinds[kind] = new Law(kind, land);
        }
    }

    // ---- 1 rows, texts, grounds

    public int row(int r, int n) {
        return comeAnew(rowOf(r), n, 0);
    }

    public int lay(int r, int i, int v) {
        Strip row = rowOf(r);
        if (row == null) {
            return BAD;
        }
        int wrong = wrongPlace(row, i);
        if (wrong != 0) {
            return found(wrong);
        }
        asked = row.get(i);
        row.set(i, v);
        return 1;
    }

    public int at(int r, int i) {
        Strip row = rowOf(r);
        if (row == null) {
            return BAD;
        }
        int wrong = wrongPlace(row, i);
        if (wrong != 0) {
            return found(wrong);
        }
        return tell(row.get(i));
    }

    public int tear(int r) {
        Strip row = rowOf(r);
        if (row == null) {
            return BAD;
        }
        if (row.isMissing()) {
            return found(NOTHING);
        }
        row.remove();
        return 1;
    }

    public int copy(int r, int i, int to, int j, int n) {
        Strip from = rowOf(r);
        Strip target = rowOf(to);
        if (from == null || target == null) {
            return BAD;
        }
        if (n < 0) {
            return found(SIZE);
        }
        if (from.isMissing() || target.isMissing()) {
            return found(NOTHING);
        }
        if (!from.spans(i, n) || !target.spans(j, n)) {
            return found(BEYOND);
        }
        target.take(j, from, i, n);
        return 1;
    }

    public int mean(int r) {
        Strip row = rowOf(r);
        if (row == null) {
            return BAD;
        }
        if (row.isMissing()) {
            return found(NOTHING);
        }
        int size = row.size();
        if (size <= 0) {
            return found(NOUGHT);
        }
        return tell((int) (row.sum() / size));
    }

    public int text(int t, int n) {
        return comeAnew(textOf(t), n, BLANK);
    }

    public int put(int t, int i, int v) {
        Strip text = textOf(t);
        if (text == null) {
            return BAD;
        }
        int wrong = wrongPlace(text, i);
        if (wrong != 0) {
            return found(wrong);
        }
        int before = text.get(i);
        text.set(i, (byte) v);
        return before + 1000;
    }

    public int fault(int t) {
        Strip text = textOf(t);
        if (text == null) {
            return BAD;
        }
        return text.isMissing() ? found(NOTHING) : reader.faultOf(text);
    }

    public int ground(int t) {
        Strip text = textOf(t);
        if (text == null) {
            return BAD;
        }
        if (text.isMissing()) {
            return found(NOTHING);
        }
        if (reader.faultOf(text) != NONE) {
            return STATE;
        }
        land.layOut(reader);
        now.begin(reader);
        takeLaws();
        deeds.forget();
        for (int k = 0; k < images.length; k++) {
            images[k].go();
        }
        return land.cells;
    }

    public int cell(int c, int what) {
        if (!land.has(c) || what < 0 || what >= CELL_TELLS) {
            return BAD;
        }
        return tell(cellTold(c, what));
    }

    public int law(int k) {
        Law law = lawOf(k);
        return law == null ? BAD : law.kind;
    }

    public int mark(int k, int kind) {
        Law law = lawOf(k);
        if (law == null || kind <= PLACE || kind >= LETTERS.length) {
            return BAD;
        }
        return law.is(kind) ? law.tells(kind, now) : found(UNLIKE);
    }

    public int hole(int i, int what) {
        if (!now.has(i) || what < 0 || what >= HOLE_TELLS) {
            return BAD;
        }
        return tell(now.holeTold(i, what));
    }

    // ---- 2 deeds

    public int dig(int c) {
        if (!land.has(c)) {
            return BAD;
        }
        if (!now.bears(c, 1)) {
            return STATE;
        }
        if (deeds.areFull()) {
            return FULL;
        }
        deeds.perform(now, 1 << c, 1, 1);
        return now.depthAt(c);
    }

    public int fill(int c) {
        if (!land.has(c)) {
            return BAD;
        }
        if (!now.bears(c, -1) || now.earth <= 0) {
            return STATE;
        }
        if (deeds.areFull()) {
            return FULL;
        }
        deeds.perform(now, 1 << c, -1, -1);
        return now.depthAt(c);
    }

    public int rain(int p, int seed) {
        if (p < 0 || p > TWELVE || seed < 1 || seed >= LOT_MODULUS) {
            return BAD;
        }
        if (!now.there) {
            return STATE;
        }
        if (deeds.areFull()) {
            return FULL;
        }
        deeds.perform(now, rainedOn(p, seed), -1, 0);
        return now.holeCount;
    }

    public int undo(int n) {
        if (n < 0 || n > deeds.size()) {
            return BAD;
        }
        return deeds.takeBack(now, n);
    }

    public int image(int k) {
        Ground image = imageOf(k);
        if (image == null) {
            return BAD;
        }
        if (!now.there) {
            return STATE;
        }
        image.become(now);
        return image.holeCount;
    }

    public int on(int k) {
        Ground image = imageOf(k);
        if (image == null) {
            return BAD;
        }
        if (!image.there) {
            return found(NOTHING);
        }
        now.become(image);
        deeds.forget();
        return now.holeCount;
    }

    public int then(int k, int i, int what) {
        Ground image = imageOf(k);
        if (image == null || what < 0 || what >= HOLE_TELLS) {
            return BAD;
        }
        if (!image.there) {
            return found(NOTHING);
        }
        if (!image.has(i)) {
            return BAD;
        }
        return tell(image.holeTold(i, what));
    }

    // ---- 3 which is which

    public int same(int law, int k, int i, int j) {
        Law by = lawOf(law);
        Ground image = imageOf(k);
        if (by == null || image == null) {
            return BAD;
        }
        if (!image.there) {
            return found(NOTHING);
        }
        if (!image.has(i) || !now.has(j)) {
            return BAD;
        }
        return by.matches(image, i, now, j) ? 1 : 0;
    }

    public int which(int law, int k, int i) {
        Law by = lawOf(law);
        Ground image = imageOf(k);
        if (by == null || image == null) {
            return BAD;
        }
        if (!image.there) {
            return found(NOTHING);
        }
        if (!image.has(i)) {
            return BAD;
        }
        return by.allMatching(image, i, now);
    }

    public int doubt(int law, int k) {
        Law by = lawOf(law);
        Ground image = imageOf(k);
        if (by == null || image == null) {
            return BAD;
        }
        if (!image.there) {
            return found(NOTHING);
        }
        int several = 0;
        int none = 0;
        for (int i = 0; i < image.holeCount; i++) {
            int matching = Integer.bitCount(by.allMatching(image, i, now));
            if (matching > 1) {
                several++;
            } else if (matching == 0) {
                none++;
            }
        }
        asked = none;
        return several;
    }

    public int fair(int k) {
        Ground image = imageOf(k);
        if (image == null) {
            return BAD;
        }
        if (!image.there) {
            return found(NOTHING);
        }
        int fair = 0;
        for (int law = 0; law < lawCount; law++) {
            Law by = lawOf(law);
            if (by != null && by.isFair(image, now)) {
                fair |= 1 << law;
            }
        }
        return fair;
    }

    public int shovels(int k) {
        Ground image = imageOf(k);
        if (image == null) {
            return BAD;
        }
        if (!image.there) {
            return found(NOTHING);
        }
        int moved = 0;
        int more = 0;
        for (int c = 0; c < land.cells; c++) {
            int deeper = now.depthAt(c) - image.depthAt(c);
            moved += Math.abs(deeper);
            more += deeper;
        }
        asked = more;
        return moved;
    }

    public int suspect(int k) {
        Ground image = imageOf(k);
        if (image == null) {
            return BAD;
        }
        if (!image.there) {
            return found(NOTHING);
        }
        int most = 0;
        int where = NONE;
        for (int c = 0; c < land.cells; c++) {
            int deeper = now.depthAt(c) - image.depthAt(c);
            if (deeper > most) {
                most = deeper;
                where = c;
            }
        }
        if (where != NONE) {
            asked = most;
        }
        return where;
    }

    // ---- 4 carried, joined, parted

    public int carry(int i, int dx, int dy) {
        if (!now.has(i)) {
            return BAD;
        }
        int bits = now.bitsOf(i);
        if (!land.canPush(bits, dx, dy)) {
            return NONE;
        }
        int by = dy * land.columns + dx;
        int pushed = by >= 0 ? bits << by : bits >>> -by;
        int others = now.dug & ~bits;
        if ((land.spread(pushed) & others) != 0) {
            return NONE;
        }
        int moved = 0;
        for (int c = 0; c < land.cells; c++) {
            if (((bits | pushed) >>> c & 1) != 0) {
                int after = (pushed >>> c & 1) != 0 ? now.depthAt(c - by) : 0;
                moved += Math.abs(after - now.depthAt(c));
            }
        }
        return moved;
    }

    public int join(int i, int j) {
        if (!now.has(i) || !now.has(j) || i == j) {
            return BAD;
        }
        int one = now.bitsOf(i);
        int other = now.bitsOf(j);
        for (int n = 1; n <= JOIN_MOST; n++) {
            // Among as many CELLS the sets come by their numbers: the first is the least.
            int set = (1 << n) - 1;
            for (int step = 0; step < SETS_MOST && set < 1 << land.cells; step++) {
                if ((land.hangingWith(one, now.dug | set) & other) != 0) {
                    asked = set;
                    return n;
                }
                set = nextSet(set);
            }
        }
        return NONE;
    }

    public int part(int i) {
        if (!now.has(i)) {
            return BAD;
        }
        int bits = now.bitsOf(i);
        int fewest = NONE;
        int least = 0;
        for (int n = 1; n <= PART_MOST; n++) {
            int set = (1 << n) - 1;
            for (int step = 0; step < SETS_MOST && set < 1 << land.cells; step++) {
                if ((set & ~bits) == 0 && land.isParted(bits & ~set)) {
                    int needed = now.volumeOf(set);
                    if (fewest == NONE || needed < fewest || needed == fewest && set < least) {
                        fewest = needed;
                        least = set;
                    }
                }
                set = nextSet(set);
            }
        }
        if (fewest != NONE) {
            asked = least;
        }
        return fewest;
    }

    public int steal(int law, int k, int i, int person, int r) {
        Law by = lawOf(law);
        Ground image = imageOf(k);
        Strip row = rowOf(r);
        if (by == null || image == null || row == null || !isPerson(person)) {
            return BAD;
        }
        if (!image.there) {
            return found(NOTHING);
        }
        if (!image.has(i)) {
            return BAD;
        }
        thief.want(by, image, i, person);
        int fewest = thief.fewestMoves(now);
        if (fewest != NONE) {
            row.renew(fewest, 0);
            for (int m = 0; m < fewest; m++) {
                row.set(m, thief.moveAt(m));
            }
        }
        return fewest;
    }

    // ---- 5 shares, heaps, witnesses

    public int share(int i, int person) {
        if (!now.has(i) || !isPerson(person)) {
            return BAD;
        }
        int bits = now.bitsOf(i);
        return tellFraction(now.volumeOf(bits & land.gardenOf(person)), now.volumeOf(bits));
    }

    public int heaps(int r) {
        Strip row = rowOf(r);
        if (row == null) {
            return BAD;
        }
        int wrong = wrongHeaps(row);
        if (wrong != 0) {
            return found(wrong);
        }
        int all = 0;
        for (int i = 0; i < now.holeCount && i < owed.length; i++) {
            owed[i] = now.volumeOf(now.bitsOf(i));
            all += owed[i];
        }
        // Where the heaps are not just as much as all HOLES, there is no use in trying.
        return tellFraction(row.sum() == all ? waysFrom(row, 0) : 0, 1);
    }

    public int lies(int r) {
        Strip row = rowOf(r);
        if (row == null) {
            return BAD;
        }
        int wrong = Witnesses.wrongIn(row, land);
        if (wrong != 0) {
            return found(wrong);
        }
        asked = Witnesses.firstLiar(row, now);
        return Witnesses.liarsOf(row, now);
    }

    public int day(int r) {
        Strip row = rowOf(r);
        if (row == null) {
            return BAD;
        }
        int wrong = Witnesses.wrongIn(row, land);
        if (wrong != 0) {
            return found(wrong);
        }
        int fewest = 0;
        int best = NONE;
        for (int k = 0; k < images.length; k++) {
            if (images[k].there) {
                int liars = Witnesses.liarsOf(row, images[k]);
                if (best == NONE || liars < fewest) {
                    fewest = liars;
                    best = k;
                }
            }
        }
        if (best != NONE) {
            asked = fewest;
        }
        return best;
    }

    public int grounds(int r) {
        Strip row = rowOf(r);
        if (row == null) {
            return BAD;
        }
        int wrong = Witnesses.wrongIn(row, land);
        if (wrong != 0) {
            return found(wrong);
        }
        return tellFraction(Witnesses.groundsBy(row, land), 1);
    }

    // ---- 6 chances

    public int odds(int i, int p) {
        if (!now.has(i) || p < 0 || p > TWELVE) {
            return BAD;
        }
        int bits = now.bitsOf(i);
        long kept = 1;
        long all = 1;
        for (int c = 0; c < land.cells; c++) {
            // Only a CELL of DEPTH 1 can be lost to one rain.
            if ((bits >>> c & 1) != 0 && now.depthAt(c) == 1) {
                kept *= TWELVE - p;
                all *= TWELVE;
            }
        }
        return tellFraction(kept, all);
    }

    public int gone(int c, int n, int p) {
        if (!land.has(c) || n < 0 || n > RAINS_MOST || p < 0 || p > TWELVE) {
            return BAD;
        }
        long all = 1;
        for (int rain = 0; rain < n; rain++) {
            all *= TWELVE;
        }
        return tellFraction(waysToVanish(now.depthAt(c), n, p), all);
    }

    // ---- 7 what is told

    public int asked() {
        return asked;
    }

    public long upper() {
        return upper;
    }

    public long lower() {
        return lower;
    }

    public int count(int what) {
        return what < 0 || what >= COUNTS ? BAD : counted(what);
    }

    public int finding() {
        return finding;
    }

    public int findings(int f) {
        return f < 1 || f >= findings.length ? BAD : findings[f];
    }

    public long digest() {
        long h = 17;
        for (int what = 0; what < COUNTS; what++) {
            h = 31 * h + counted(what);
        }
        for (int c = 0; c < land.cells; c++) {
            for (int what = 0; what < CELL_TELLS; what++) {
                h = 31 * h + cellTold(c, what);
            }
        }
        for (int k = 0; k < lawCount; k++) {
            h = 31 * h + law(k);
        }
        for (int k = 0; k < images.length; k++) {
            h = images[k].digestOnto(h);
        }
        for (int r = 0; r < rows.length; r++) {
            h = rows[r].digestOnto(h);
        }
        for (int t = 0; t < texts.length; t++) {
            h = texts[t].digestOnto(h);
        }
        return h;
    }

    // ---- what the calls share

    private Strip rowOf(int r) {
        return r >= 0 && r < rows.length ? rows[r] : null;
    }

    private Strip textOf(int t) {
        return t >= 0 && t < texts.length ? texts[t] : null;
    }

    private Ground imageOf(int k) {
        return k >= 0 && k < images.length ? images[k] : null;
    }

    private Law lawOf(int k) {
        return k >= 0 && k < lawCount && k < laws.length ? laws[k] : null;
    }

    private static boolean isPerson(int person) {
        return person >= 0 && person < PERSONS;
    }

    private int found(int f) {
        if (f >= 1 && f < findings.length) {
            finding = f;
            findings[f]++;
        }
        return FINDING;
    }

    private int tell(int v) {
        asked = v;
        return 1;
    }

    private int tellFraction(long up, long low) {
        long common = commonDivisor(up, low);
        upper = common > 0 ? up / common : 0;
        lower = common > 0 ? low / common : 1;
        return 1;
    }

    private static long commonDivisor(long one, long other) {
        long a = one;
        long b = other;
        // Two longs never need a hundred steps of Euclid's.
        for (int step = 0; step < 100 && b != 0; step++) {
            long rest = a % b;
            a = b;
            b = rest;
        }
        return a;
    }

    private int comeAnew(Strip strip, int n, int v) {
        if (strip == null || n > strip.most()) {
            return BAD;
        }
        if (n < 0) {
            return found(SIZE);
        }
        strip.renew(n, v);
        return n;
    }

    private static int wrongPlace(Strip strip, int i) {
        if (strip.isMissing()) {
            return NOTHING;
        }
        return strip.has(i) ? 0 : BEYOND;
    }

    private static int wrongHeaps(Strip row) {
        if (row.isMissing()) {
            return NOTHING;
        }
        if (row.size() < 1 || row.size() > HEAPS_MOST) {
            return SIZE;
        }
        for (int heap = 0; heap < row.size(); heap++) {
            if (row.get(heap) < 1 || row.get(heap) > HEAP_LARGEST) {
                return UNLIKE;
            }
        }
        return 0;
    }

    private void takeLaws() {
        lawCount = Math.min(reader.laws, laws.length);
        for (int k = 0; k < lawCount; k++) {
            int kind = reader.kindAt(k);
            laws[k] = kind >= 0 && kind < kinds.length ? kinds[kind] : null;
        }
    }

    private int cellTold(int c, int what) {
        switch (what) {
            case 0:
                return now.depthAt(c);
            case 1:
                return land.gardenerAt(c);
            default:
                return now.holeAt(c);
        }
    }

    private int counted(int what) {
        switch (what) {
            case 0:
                return land.cells;
            case 1:
                return land.columns;
            case 2:
                return now.holeCount;
            case 3:
                return now.earth;
            case 4:
                return deeds.size();
            case 5:
                return lawCount;
            case 6:
                return rimLaws();
            case 7:
                return stripsThere(rows);
            case 8:
                return stripsThere(texts);
            default:
                return imagesThere();
        }
    }

    private int rimLaws() {
        int n = 0;
        for (int k = 0; k < lawCount; k++) {
            Law law = lawOf(k);
            if (law != null && law.is(RIM)) {
                n++;
            }
        }
        return n;
    }

    private static int stripsThere(Strip[] strips) {
        int n = 0;
        for (int s = 0; s < strips.length; s++) {
            if (!strips[s].isMissing()) {
                n++;
            }
        }
        return n;
    }

    private int imagesThere() {
        int n = 0;
        for (int k = 0; k < images.length; k++) {
            if (images[k].there) {
                n++;
            }
        }
        return n;
    }

    private int rainedOn(int p, int seed) {
        int bits = 0;
        long lot = seed;
        for (int c = 0; c < land.cells; c++) {
            if (now.depthAt(c) > 0) {
                lot = lot * LOT_FACTOR % LOT_MODULUS;
                if (lot % TWELVE < p) {
                    bits |= 1 << c;
                }
            }
        }
        return bits;
    }

    /** The next larger set of CELLS with as many members. */
    private static int nextSet(int set) {
        int lowest = set & -set;
        int carried = set + lowest;
        int trailing = Integer.bitCount(lowest - 1);
        return carried | (carried ^ set) >>> 2 >>> trailing;
    }

    /** The ways of heaps from this one on, each HOLE owing what is left of its VOLUME. */
    private int waysFrom(Strip row, int heap) {
        if (heap >= row.size() || heap >= HEAPS_MOST) {
            // The heaps are together as much as the HOLES: none owes anything now.
            return 1;
        }
        int ways = 0;
        int size = row.get(heap);
        for (int i = 0; i < now.holeCount && i < owed.length; i++) {
            if (owed[i] >= size) {
                owed[i] -= size;
                ways += waysFrom(row, heap + 1);
                owed[i] += size;
            }
        }
        return ways;
    }

    /** Of 12 to the power of rains ways of raining, those that leave nothing of a DEPTH. */
    private static long waysToVanish(int depth, int rains, int p) {
        if (rains <= 0) {
            return depth <= 0 ? 1 : 0;
        }
        if (depth <= 0) {
            return TWELVE * waysToVanish(0, rains - 1, p);
        }
        return p * waysToVanish(depth - 1, rains - 1, p)
                + (TWELVE - p) * waysToVanish(depth, rains - 1, p);
    }

    /** A ROW or a TEXT. Its places are made once, so that no call makes any. */
    private static final class Strip {
        private final int[] places;
        private int size = MISSING;

        Strip(int most) {
            places = new int[Math.max(0, most)];
        }

        int most() {
            return places.length;
        }

        int size() {
            return size;
        }

        boolean isMissing() {
            return size < 0;
        }

        boolean has(int i) {
            return i >= 0 && i < size && i < places.length;
        }

        boolean spans(int i, int n) {
            return i >= 0 && n >= 0 && i <= size - n;
        }

        int get(int i) {
            return has(i) ? places[i] : 0;
        }

        void set(int i, int v) {
            if (has(i)) {
                places[i] = v;
            }
        }

        void renew(int n, int v) {
            size = Math.max(0, Math.min(n, places.length));
            for (int i = 0; i < size && i < places.length; i++) {
                places[i] = v;
            }
        }

        void remove() {
            size = MISSING;
        }

        void take(int j, Strip from, int i, int n) {
            if (from.spans(i, n) && spans(j, n)) {
                System.arraycopy(from.places, i, places, j, n);
            }
        }

        long sum() {
            long sum = 0;
            for (int i = 0; i < size && i < places.length; i++) {
                sum += places[i];
            }
            return sum;
        }

        long digestOnto(long before) {
            long h = 31 * before + size;
            for (int i = 0; i < size && i < places.length; i++) {
                h = 31 * h + places[i];
            }
            return h;
        }
    }

    /** Reads a TEXT as a GROUND, aside: what it read is taken only where there is no FAULT. */
    private static final class Reader {
        private static final int END = 1000;

        private final int[] depths = new int[CELLS_MOST];
        private final int[] gardeners = new int[COLUMNS_MOST];
        private final int[] kinds = new int[LAWS_MOST];
        private int place;
        private int lines;
        private int columns;
        private int laws;

        /** The FAULT, or NONE. Every FAULT is where the reading stopped, at the end, too. */
        int faultOf(Strip text) {
            place = 0;
            lines = 0;
            columns = 0;
            laws = 0;
            skipBlanks(text);
            if (!readLines(text) || !readGardens(text)) {
                return place;
            }
            readLaws(text);
            skipBlanks(text);
            return place < text.size() ? place : NONE;
        }

        int depthAt(int c) {
            return c >= 0 && c < depths.length ? depths[c] : 0;
        }

        int gardenerAt(int column) {
            return column >= 0 && column < gardeners.length ? gardeners[column] : 0;
        }

        int kindAt(int k) {
            return k >= 0 && k < kinds.length ? kinds[k] : PLACE;
        }

        private int sign(Strip text) {
            return text.has(place) ? text.get(place) : END;
        }

        private int figure(Strip text, int most) {
            int figure = sign(text) - '0';
            return figure >= 0 && figure <= most ? figure : -1;
        }

        private void skipBlanks(Strip text) {
            while (place < text.size() && sign(text) == BLANK) {
                place++;
            }
        }

        private boolean readLines(Strip text) {
            for (int line = 0; line < LINES_MOST; line++) {
                if (!readLine(text, line)) {
                    return false;
                }
                lines = line + 1;
                int sign = sign(text);
                if (sign == '=') {
                    place++;
                    return true;
                }
                if (sign != '/' || lines == LINES_MOST) {
                    return false;
                }
                place++;
            }
            return false;
        }

        private boolean readLine(Strip text, int line) {
            int most = line == 0 ? COLUMNS_MOST : columns;
            int n = 0;
            while (n < most && figure(text, DEEPEST) >= 0) {
                int c = line * columns + n;
                if (c < depths.length) {
                    depths[c] = figure(text, DEEPEST);
                }
                n++;
                place++;
            }
            if (line == 0) {
                columns = n;
            }
            return n >= COLUMNS_LEAST && n == columns;
        }

        private boolean readGardens(Strip text) {
            for (int column = 0; column < columns && column < gardeners.length; column++) {
                int figure = figure(text, PERSONS - 1);
                if (figure < 0) {
                    return false;
                }
                gardeners[column] = figure;
                place++;
            }
            return true;
        }

        private void readLaws(Strip text) {
            for (int k = 0; k < kinds.length; k++) {
                int kind = kindBy(sign(text));
                if (kind < 0) {
                    return;
                }
                kinds[k] = kind;
                laws = k + 1;
                place++;
            }
        }

        private static int kindBy(int letter) {
            for (int kind = 0; kind < LETTERS.length; kind++) {
                if (LETTERS[kind] == letter) {
                    return kind;
                }
            }
            return -1;
        }
    }

    /** How the CELLS lie and whose they are: what no DEED changes. Sets of CELLS are bits. */
    private static final class Land {
        private static final int BOARD_LINE = 0xF, BOARD_COLUMN = 0x1111;

        private int cells;
        private int columns;
        private int firstColumn;
        private int lastColumn;
        private final int[] gardens = new int[PERSONS];

        void layOut(Reader reader) {
            columns = reader.columns;
            cells = reader.lines * columns;
            firstColumn = columnBits(0);
            lastColumn = columnBits(columns - 1);
            for (int person = 0; person < gardens.length; person++) {
                gardens[person] = 0;
                for (int column = 0; column < columns; column++) {
                    if (reader.gardenerAt(column) == person) {
                        gardens[person] |= columnBits(column);
                    }
                }
            }
        }

        private int columnBits(int column) {
            int bits = 0;
            for (int line = 0; line < LINES_MOST; line++) {
                int c = line * columns + column;
                if (c >= 0 && c < cells) {
                    bits |= 1 << c;
                }
            }
            return bits;
        }

        boolean has(int c) {
            return c >= 0 && c < cells;
        }

        int gardenOf(int person) {
            return person >= 0 && person < gardens.length ? gardens[person] : 0;
        }

        int gardenerAt(int c) {
            return has(c) ? ownerOf(1 << c) : NONE;
        }

        /** Of whose GARDEN most of these CELLS are, the least of alike ones. */
        int ownerOf(int bits) {
            int most = 0;
            int owner = NONE;
            for (int person = 0; person < gardens.length; person++) {
                int n = Integer.bitCount(bits & gardens[person]);
                if (n > most) {
                    most = n;
                    owner = person;
                }
            }
            return owner;
        }

        /** These CELLS and those beside them. */
        int spread(int bits) {
            int aside = (bits & ~lastColumn) << 1 | (bits & ~firstColumn) >>> 1;
            int alongside = bits << columns | bits >>> columns;
            return (bits | aside | alongside) & (1 << cells) - 1;
        }

        /** What of some CELLS hangs together with a start among them. */
        int hangingWith(int start, int within) {
            int grown = start & within;
            for (int step = 0; step < CELLS_MOST; step++) {
                int next = spread(grown) & within;
                if (next == grown) {
                    return grown;
                }
                grown = next;
            }
            return grown;
        }

        boolean isParted(int bits) {
            return hangingWith(bits & -bits, bits) != bits;
        }

        boolean canPush(int bits, int dx, int dy) {
            if (Math.abs((long) dx) >= COLUMNS_MOST || Math.abs((long) dy) >= LINES_MOST) {
                return false;
            }
            for (int c = 0; c < cells && columns > 0; c++) {
                int column = c % columns + dx;
                int to = c + dy * columns + dx;
                if ((bits >>> c & 1) != 0 && (column < 0 || column >= columns || !has(to))) {
                    return false;
                }
            }
            return true;
        }

        /** CELLS on a board of four by four, where every one of them can be turned. */
        int onBoard(int bits) {
            int wholeLine = (1 << columns) - 1;
            int form = 0;
            for (int line = 0; line < LINES_MOST; line++) {
                form |= (bits >>> line * columns & wholeLine) << line * COLUMNS_MOST;
            }
            return form;
        }

        /** What lies on the board, pushed into its first corner. */
        static int cornered(int form) {
            int pushed = form;
            for (int line = 0; line < LINES_MOST && (pushed & BOARD_LINE) == 0; line++) {
                pushed >>>= COLUMNS_MOST;
            }
            for (int column = 0; column < COLUMNS_MOST && (pushed & BOARD_COLUMN) == 0; column++) {
                pushed >>>= 1;
            }
            return pushed;
        }

        /** The board turned by a quarter. */
        static int turned(int form) {
            int turned = 0;
            for (int line = 0; line < LINES_MOST; line++) {
                for (int column = 0; column < COLUMNS_MOST; column++) {
                    if ((form >>> line * COLUMNS_MOST + column & 1) != 0) {
                        turned |= 1 << column * COLUMNS_MOST + LINES_MOST - 1 - line;
                    }
                }
            }
            return turned;
        }
    }

    /** The DEPTHS, the CART and the HOLES, of now, of an IMAGE, or of what a thief thinks of. */
    private static final class Ground {
        // No set of CELLS: the land may have come anew, though the same CELLS are dug.
        private static final int UNKNOWN = -1;

        private final Land land;
        private final int[] depths = new int[CELLS_MOST];
        private final int[] holes = new int[HOLES_MOST];
        private int holeCount;
        private int dug;
        private int surveyed;
        private int earth;
        private boolean there;

        Ground(Land land) {
            this.land = land;
        }

        void begin(Reader reader) {
            dug = 0;
            for (int c = 0; c < depths.length; c++) {
                depths[c] = c < land.cells ? reader.depthAt(c) : 0;
                if (depths[c] > 0) {
                    dug |= 1 << c;
                }
            }
            earth = 0;
            there = true;
            surveyed = UNKNOWN;
            survey();
        }

        void become(Ground other) {
            System.arraycopy(other.depths, 0, depths, 0, CELLS_MOST);
            System.arraycopy(other.holes, 0, holes, 0, HOLES_MOST);
            holeCount = other.holeCount;
            dug = other.dug;
            surveyed = other.surveyed;
            earth = other.earth;
            there = other.there;
        }

        void go() {
            there = false;
        }

        boolean has(int i) {
            return i >= 0 && i < holeCount;
        }

        int bitsOf(int i) {
            return i >= 0 && i < holeCount && i < holes.length ? holes[i] : 0;
        }

        int depthAt(int c) {
            return c >= 0 && c < depths.length ? depths[c] : 0;
        }

        boolean bears(int c, int by) {
            int depth = depthAt(c) + by;
            return depth >= 0 && depth <= DEEPEST;
        }

        /** One CELL is so much deeper; survey() tells the HOLES anew. */
        void deepen(int c, int by) {
            if (c < 0 || c >= depths.length) {
                return;
            }
            depths[c] += by;
            if (depths[c] > 0) {
                dug |= 1 << c;
            } else {
                dug &= ~(1 << c);
            }
        }

        /** The HOLES hang on which CELLS are dug alone, not on how deep. */
        void survey() {
            if (dug == surveyed) {
                return;
            }
            surveyed = dug;
            holeCount = 0;
            int left = dug;
            for (int i = 0; i < holes.length && left != 0; i++) {
                holes[i] = land.hangingWith(left & -left, left);
                left &= ~holes[i];
                holeCount = i + 1;
            }
        }

        int holeAt(int c) {
            for (int i = 0; i < holeCount; i++) {
                if ((bitsOf(i) >>> c & 1) != 0) {
                    return i;
                }
            }
            return NONE;
        }

        int volumeOf(int bits) {
            int volume = 0;
            for (int c = 0; c < depths.length; c++) {
                if ((bits >>> c & 1) != 0) {
                    volume += depths[c];
                }
            }
            return volume;
        }

        int bottomOf(int bits) {
            int bottom = 0;
            for (int c = 0; c < depths.length; c++) {
                if ((bits >>> c & 1) != 0) {
                    bottom = Math.max(bottom, depths[c]);
                }
            }
            return bottom;
        }

        int largestHole() {
            int largest = 0;
            for (int i = 0; i < holeCount; i++) {
                largest = Math.max(largest, Integer.bitCount(bitsOf(i)));
            }
            return largest;
        }

        int holeTold(int i, int what) {
            int bits = bitsOf(i);
            switch (what) {
                case 0:
                    return bits;
                case 1:
                    return Integer.bitCount(bits);
                case 2:
                    return volumeOf(bits);
                case 3:
                    return bottomOf(bits);
                default:
                    return land.ownerOf(bits);
            }
        }

        long digestOnto(long before) {
            if (!there) {
                return 31 * before + MISSING;
            }
            long h = before;
            for (int c = 0; c < land.cells; c++) {
                h = 31 * h + depthAt(c);
            }
            return 31 * h + earth;
        }
    }

    /** A LAW of a KIND: whether two HOLES are the SAME, and what it tells of those there are. */
    private static final class Law {
        private static final int UNTURNED = 0, QUARTERS = 3;

        private final int kind;
        private final Land land;

        Law(int kind, Land land) {
            this.kind = kind;
            this.land = land;
        }

        boolean is(int other) {
            int wider = kind;
            for (int step = 0; step < WIDER_KINDS.length; step++) {
                if (wider == other) {
                    return true;
                }
                if (wider < 0 || wider >= WIDER_KINDS.length) {
                    return false;
                }
                wider = WIDER_KINDS[wider];
            }
            return false;
        }

        boolean matches(Ground then, int i, Ground now, int j) {
            int one = then.bitsOf(i);
            int other = now.bitsOf(j);
            switch (kind) {
                case RIM:
                    return one == other;
                case SHAPE:
                    return areAlike(one, other, UNTURNED);
                case TURNED:
                    return areAlike(one, other, QUARTERS);
                case BULK:
                    return then.volumeOf(one) == now.volumeOf(other);
                case DEEP:
                    return then.volumeOf(one) == now.volumeOf(other)
                            && then.bottomOf(one) == now.bottomOf(other);
                default:
                    return (one & other) != 0;
            }
        }

        private boolean areAlike(int one, int other, int quarters) {
            if (Integer.bitCount(one) != Integer.bitCount(other)) {
                return false;
            }
            int form = Land.cornered(land.onBoard(one));
            int wanted = Land.cornered(land.onBoard(other));
            for (int quarter = 0; quarter < quarters && form != wanted; quarter++) {
                form = Land.cornered(Land.turned(form));
            }
            return form == wanted;
        }

        int allMatching(Ground then, int i, Ground now) {
            int bits = 0;
            for (int j = 0; j < now.holeCount; j++) {
                if (matches(then, i, now, j)) {
                    bits |= 1 << j;
                }
            }
            return bits;
        }

        /** Each of then has one of now; being as many, and all of now taken, so has each of now. */
        boolean isFair(Ground then, Ground now) {
            if (then.holeCount != now.holeCount) {
                return false;
            }
            int taken = 0;
            for (int i = 0; i < then.holeCount; i++) {
                int matching = allMatching(then, i, now);
                if (Integer.bitCount(matching) != 1) {
                    return false;
                }
                taken |= matching;
            }
            return taken == (1 << now.holeCount) - 1;
        }

        int tells(int as, Ground now) {
            switch (as) {
                case RIM:
                    return now.largestHole();
                case SHAPE:
                    return alikePairs(now, kind == TURNED ? QUARTERS : UNTURNED);
                case TURNED:
                    return alikePairs(now, QUARTERS) - alikePairs(now, UNTURNED);
                case BULK:
                    return now.volumeOf(now.dug);
                default:
                    return now.bottomOf(now.dug);
            }
        }

        private int alikePairs(Ground now, int quarters) {
            int n = 0;
            for (int i = 0; i < now.holeCount; i++) {
                for (int j = i + 1; j < now.holeCount; j++) {
                    if (areAlike(now.bitsOf(i), now.bitsOf(j), quarters)) {
                        n++;
                    }
                }
            }
            return n;
        }
    }

    /** DEEDS: which CELLS came to be how much deeper, and how much EARTH came into the CART. */
    private static final class Deeds {
        private final int[] cells = new int[DEEDS_MOST];
        private final int[] depths = new int[DEEDS_MOST];
        private final int[] earths = new int[DEEDS_MOST];
        private int size;

        int size() {
            return size;
        }

        boolean areFull() {
            return size >= DEEDS_MOST;
        }

        void forget() {
            size = 0;
        }

        void perform(Ground now, int bits, int by, int earth) {
            if (size < 0 || areFull()) {
                return;
            }
            cells[size] = bits;
            depths[size] = by;
            earths[size] = earth;
            size++;
            change(now, bits, by, earth);
        }

        /** Takes back the DEEDS from n on, the latest first, and tells how many. */
        int takeBack(Ground now, int n) {
            int taken = 0;
            for (int d = Math.min(size, DEEDS_MOST) - 1; d >= n && d >= 0; d--) {
                change(now, cells[d], -depths[d], -earths[d]);
                taken++;
            }
            size -= taken;
            return taken;
        }

        private static void change(Ground now, int bits, int by, int earth) {
            for (int c = 0; c < CELLS_MOST; c++) {
                if ((bits >>> c & 1) != 0) {
                    now.deepen(c, by);
                }
            }
            now.earth += earth;
            now.survey();
        }
    }

    /** Seeks the fewest moves by which a LAW calls a HOLE of then one that is a PERSON's now. */
    private static final class Thief {
        private final Land land;
        private final Ground aside;
        private final int[] moves = new int[STEAL_MOST];
        private Law law;
        private Ground then;
        private int hole;
        private int person;

        Thief(Land land) {
            this.land = land;
            this.aside = new Ground(land);
        }

        void want(Law by, Ground image, int i, int whose) {
            law = by;
            then = image;
            hole = i;
            person = whose;
        }

        int moveAt(int m) {
            return m >= 0 && m < moves.length ? moves[m] : 0;
        }

        int fewestMoves(Ground now) {
            // Who has no GARDEN has no HOLE, whatever is done.
            if (land.gardenOf(person) == 0) {
                return NONE;
            }
            aside.become(now);
            for (int most = 0; most <= STEAL_MOST; most++) {
                if (succeeds(0, 0, most)) {
                    return most;
                }
            }
            return NONE;
        }

        /**
         * Moves come by their numbers, never a lesser one behind a greater: fewest moves never dig
         * and fill one CELL, so they can be done in any order, and this order is the first.
         */
        private boolean succeeds(int level, int from, int most) {
            if (level >= most || level >= moves.length) {
                return isStolen();
            }
            for (int move = from; move < 2 * land.cells; move++) {
                boolean fills = move >= land.cells;
                int c = fills ? move - land.cells : move;
                int by = fills ? -1 : 1;
                if (!aside.bears(c, by)) {
                    continue;
                }
                moves[level] = fills ? c + FILLED_MARK : c;
                aside.deepen(c, by);
                boolean stolen = succeeds(level + 1, move, most);
                aside.deepen(c, -by);
                if (stolen) {
                    return true;
                }
            }
            return false;
        }

        private boolean isStolen() {
            if (law == null || then == null) {
                return false;
            }
            aside.survey();
            for (int j = 0; j < aside.holeCount; j++) {
                if (law.matches(then, hole, aside, j)
                        && land.ownerOf(aside.bitsOf(j)) == person) {
                    return true;
                }
            }
            return false;
        }
    }

    /** Witnesses in a ROW of threes: a CELL, a DEPTH, and how it is meant. */
    private static final class Witnesses {
        private static final int JUST = 0, AT_LEAST = 1, AT_MOST = 2;

        /** The FINDING that such a ROW is refused with, or 0. */
        static int wrongIn(Strip row, Land land) {
            if (row.isMissing()) {
                return NOTHING;
            }
            if (row.size() % 3 != 0) {
                return SIZE;
            }
            for (int w = 0; w < row.size(); w += 3) {
                int depth = row.get(w + 1);
                int meant = row.get(w + 2);
                if (!land.has(row.get(w)) || depth < 0 || depth > DEEPEST
                        || meant < JUST || meant > AT_MOST) {
                    return UNLIKE;
                }
            }
            return 0;
        }

        static int liarsOf(Strip row, Ground ground) {
            int liars = 0;
            for (int w = 0; w < row.size(); w += 3) {
                if (isLie(row, w, ground.depthAt(row.get(w)))) {
                    liars++;
                }
            }
            return liars;
        }

        static int firstLiar(Strip row, Ground ground) {
            for (int w = 0; w < row.size(); w += 3) {
                if (isLie(row, w, ground.depthAt(row.get(w)))) {
                    return w / 3;
                }
            }
            return NONE;
        }

        static long groundsBy(Strip row, Land land) {
            long ways = 1;
            for (int c = 0; c < land.cells; c++) {
                if (speaksOf(row, c)) {
                    ways *= depthsBy(row, c);
                }
            }
            return ways;
        }

        private static boolean speaksOf(Strip row, int c) {
            for (int w = 0; w < row.size(); w += 3) {
                if (row.get(w) == c) {
                    return true;
                }
            }
            return false;
        }

        private static int depthsBy(Strip row, int c) {
            int depths = 0;
            for (int depth = 0; depth <= DEEPEST; depth++) {
                boolean doubted = false;
                for (int w = 0; w < row.size() && !doubted; w += 3) {
                    doubted = row.get(w) == c && isLie(row, w, depth);
                }
                if (!doubted) {
                    depths++;
                }
            }
            return depths;
        }

        private static boolean isLie(Strip row, int w, int depth) {
            int told = row.get(w + 1);
            switch (row.get(w + 2)) {
                case JUST:
                    return depth != told;
                case AT_LEAST:
                    return depth < told;
                default:
                    return depth > told;
            }
        }
    }
}
