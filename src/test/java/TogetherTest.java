import java.math.BigInteger;
import java.util.ArrayList;
import java.util.List;
import java.util.Random;

/**
 * Calls held against one another, on chosen GROUNDS: what one tells must come true where others do it.
 * No model is asked: a HOLE is carried by digging and filling, a theft is done, heaps are what was dug.
 */
public final class TogetherTest {
    private static final int NONE = -9, CALLS_MOST = 512;
    private static final int PLACE = 0, RIM = 1, SHAPE = 2, BULK = 3, TURNED = 4, DEEP = 5;
    private static final String LAWS = "prsbtd";
    private static final int LANDS = 400;

    private static int wrong;
    private static long looks;

    private final Random lots;
    private final int columns;
    private final int lines;
    private final int[] depths;
    private final int[] gardens;
    private HoleMoved x;
    private int calls;

    public static void main(String[] args) {
        for (int land = 0; land < LANDS && wrong < 20; land++) {
            new TogetherTest(land).all();
        }
        chancesOfEachDepth();
        System.out.println(wrong == 0 ? looks + " answers hold against others" : wrong + " answers do not hold");
        if (wrong != 0) {
            System.exit(1);
        }
    }

    private TogetherTest(int land) {
        lots = new Random(land * 104729L + 3);
        columns = 2 + lots.nextInt(3);
        lines = 1 + lots.nextInt(4);
        depths = new int[columns * lines];
        gardens = new int[columns];
        int share = 2 + lots.nextInt(6);
        for (int c = 0; c < depths.length; c++) {
            depths[c] = lots.nextInt(8) < share ? 1 + lots.nextInt(1 + lots.nextInt(5)) : 0;
        }
        for (int column = 0; column < columns; column++) {
            gardens[column] = lots.nextInt(4);
        }
    }

    private void all() {
        holesAndCells();
        whichAndSame();
        marksAndPairs();
        carried();
        joined();
        parted();
        stolen();
        rained();
        kept();
        witnesses();
        heapsOfHoles();
        sharesAndOdds();
        turnedAbout();
    }

    // ---- what the relations are made of

    private void due(String what, long got, long want) {
        looks++;
        if (got != want) {
            wrong++;
            System.out.println(written(depths) + ": " + what + " is " + got + ", due is " + want);
        }
    }

    /** Counts a call, so that no object is asked behind its last one. */
    private HoleMoved ask() {
        calls++;
        if (calls > CALLS_MOST) {
            due("how many calls an object is asked", calls, CALLS_MOST);
        }
        return x;
    }

    private int asked() {
        return ask().asked();
    }

    private int cell(int c, int what) {
        due("cell(" + c + ", " + what + ")", ask().cell(c, what), 1);
        return asked();
    }

    private int hole(int i, int what) {
        due("hole(" + i + ", " + what + ")", ask().hole(i, what), 1);
        return asked();
    }

    private int holes() {
        return ask().count(2);
    }

    private String written(int[] of) {
        StringBuilder text = new StringBuilder();
        for (int c = 0; c < of.length; c++) {
            text.append(c > 0 && c % columns == 0 ? "/" : "").append(of[c]);
        }
        text.append('=');
        for (int garden : gardens) {
            text.append(garden);
        }
        return text.append(LAWS).toString();
    }

    /** A new object on a GROUND of such DEPTHS. */
    private void begin(int[] of) {
        x = new HoleMoved();
        calls = 0;
        String text = written(of);
        ask().text(0, text.length());
        for (int i = 0; i < text.length(); i++) {
            ask().put(0, i, text.charAt(i));
        }
        due("ground(0)", ask().ground(0), of.length);
    }

    private int[] told() {
        int[] of = new int[depths.length];
        for (int c = 0; c < of.length; c++) {
            of[c] = cell(c, 0);
        }
        return of;
    }

    private void someDeeds(int n) {
        for (int deed = 0; deed < n; deed++) {
            int c = lots.nextInt(depths.length);
            if (lots.nextInt(3) == 0) {
                ask().fill(c);
            } else {
                ask().dig(c);
            }
        }
    }

    private boolean beside(int c, int d) {
        return Math.abs(c % columns - d % columns) + Math.abs(c / columns - d / columns) == 1;
    }

    private static boolean has(int bits, int c) {
        return (bits >>> c & 1) != 0;
    }

    // ---- the relations

    private void holesAndCells() {
        begin(depths);
        int[] holeOf = new int[depths.length];
        for (int c = 0; c < depths.length; c++) {
            due("DEPTH of " + c, cell(c, 0), depths[c]);
            due("GARDEN of " + c, cell(c, 1), gardens[c % columns]);
            holeOf[c] = cell(c, 2);
            due("a HOLE of " + c, holeOf[c] == NONE ? 0 : 1, Math.min(1, depths[c]));
            for (int d = 0; d < c; d++) {
                if (beside(c, d) && depths[c] > 0 && depths[d] > 0) {
                    due("the HOLE of " + d + ", beside " + c, holeOf[d], holeOf[c]);
                }
            }
        }
        int n = holes();
        int before = 0;
        for (int i = 0; i < n; i++) {
            int bits = hole(i, 0);
            due("HOLES come by their least CELLS, " + i, Integer.lowestOneBit(bits) > before ? 1 : 0, 1);
            before = Integer.lowestOneBit(bits);
            holeIs(i, bits, holeOf);
        }
    }

    private void holeIs(int i, int bits, int[] holeOf) {
        int volume = 0;
        int bottom = 0;
        int[] whose = new int[4];
        for (int c = 0; c < depths.length; c++) {
            due("CELL " + c + " in the bits of HOLE " + i, has(bits, c) ? 1 : 0, holeOf[c] == i ? 1 : 0);
            if (has(bits, c)) {
                volume += depths[c];
                bottom = Math.max(bottom, depths[c]);
                whose[gardens[c % columns]]++;
            }
        }
        due("how many CELLS of " + i, hole(i, 1), Integer.bitCount(bits));
        due("VOLUME of " + i, hole(i, 2), volume);
        due("BOTTOM of " + i, hole(i, 3), bottom);
        int owner = hole(i, 4);
        for (int person = 0; person < 4; person++) {
            boolean more = person < owner ? whose[person] < whose[owner] : whose[person] <= whose[owner];
            due("HOLE " + i + " is " + owner + "'s, not " + person + "'s", more ? 1 : 0, 1);
        }
    }

    private void whichAndSame() {
        int[] fair = new int[1];
        for (int law = 0; law < LAWS.length(); law++) {
            begin(depths);
            int then = ask().image(1);
            // The same DEEDS for each LAW.
            Random kept = new Random(depths.length * 31L + columns);
            for (int deed = 0; deed < 6; deed++) {
                ask().dig(kept.nextInt(depths.length));
                ask().fill(kept.nextInt(depths.length));
            }
            fairBy(law, then, fair);
        }
    }

    private void fairBy(int law, int then, int[] fair) {
        int now = holes();
        int several = 0;
        int none = 0;
        int[] ofNow = new int[now];
        for (int i = 0; i < then; i++) {
            int which = ask().which(law, 1, i);
            for (int j = 0; j < now; j++) {
                due("same(" + law + ", 1, " + i + ", " + j + ")", ask().same(law, 1, i, j), has(which, j) ? 1 : 0);
                ofNow[j] += has(which, j) ? 1 : 0;
            }
            due("HOLES of now above the last", which >>> now, 0);
            several += Integer.bitCount(which) > 1 ? 1 : 0;
            none += which == 0 ? 1 : 0;
        }
        due("doubt(" + law + ", 1)", ask().doubt(law, 1), several);
        due("as none", asked(), none);
        boolean each = several == 0 && none == 0;
        for (int n : ofNow) {
            each = each && n == 1;
        }
        fair[0] |= each ? 1 << law : 0;
        if (law == LAWS.length() - 1) {
            due("fair(1)", ask().fair(1), fair[0]);
        }
    }

    private void marksAndPairs() {
        begin(depths);
        int n = ask().image(0);
        int largest = 0;
        int volumes = 0;
        int bottom = 0;
        int alike = 0;
        int turned = 0;
        for (int i = 0; i < n; i++) {
            largest = Math.max(largest, hole(i, 1));
            volumes += hole(i, 2);
            bottom = Math.max(bottom, hole(i, 3));
            for (int j = i + 1; j < n; j++) {
                alike += ask().same(SHAPE, 0, i, j);
                turned += ask().same(TURNED, 0, i, j);
            }
        }
        for (int law = RIM; law <= TURNED; law++) {
            if (law != BULK) {
                due("mark(" + law + ", RIM)", ask().mark(law, RIM), largest);
            }
        }
        due("mark(SHAPE, SHAPE)", ask().mark(SHAPE, SHAPE), alike);
        due("mark(TURNED, SHAPE)", ask().mark(TURNED, SHAPE), turned);
        due("mark(TURNED, TURNED)", ask().mark(TURNED, TURNED), turned - alike);
        due("mark(BULK, BULK)", ask().mark(BULK, BULK), volumes);
        due("mark(DEEP, BULK)", ask().mark(DEEP, BULK), volumes);
        due("mark(DEEP, DEEP)", ask().mark(DEEP, DEEP), bottom);
        due("fair(0), by PLACE and RIM at least", ask().fair(0) & 3, 3);
    }

    private void carried() {
        begin(depths);
        int n = holes();
        for (int i = 0; i < n; i++) {
            for (int dx = -columns; dx <= columns; dx++) {
                begin(depths);
                for (int dy = -lines; dy <= lines; dy++) {
                    carryOne(i, dx, dy);
                }
            }
        }
    }

    private void carryOne(int i, int dx, int dy) {
        int bits = hole(i, 0);
        int shovels = ask().carry(i, dx, dy);
        int[] after = depths.clone();
        boolean can = true;
        for (int c = 0; c < depths.length; c++) {
            after[c] = has(bits, c) ? 0 : after[c];
        }
        int[] others = after.clone();
        for (int c = 0; c < depths.length && can; c++) {
            int column = c % columns + dx;
            int line = c / columns + dy;
            if (has(bits, c)) {
                can = column >= 0 && column < columns && line >= 0 && line < lines;
                if (can) {
                    after[line * columns + column] = depths[c];
                    can = isFree(others, line * columns + column);
                }
            }
        }
        due("carry(" + i + ", " + dx + ", " + dy + ") can be", shovels == NONE ? 0 : 1, can ? 1 : 0);
        if (can && shovels > 0 && shovels <= 40) {
            carryOut(i, after, shovels);
            begin(depths);
        }
    }

    private boolean isFree(int[] others, int c) {
        boolean free = others[c] == 0;
        for (int d = 0; d < others.length; d++) {
            free = free && !(others[d] > 0 && beside(c, d));
        }
        return free;
    }

    /** Digs first, then fills: the EARTH of what was dug is just enough. */
    private void carryOut(int i, int[] after, int shovels) {
        int n = ask().image(0);
        for (int c = 0; c < after.length; c++) {
            for (int deed = depths[c]; deed < after[c]; deed++) {
                ask().dig(c);
            }
        }
        for (int c = 0; c < after.length; c++) {
            for (int deed = depths[c]; deed > after[c]; deed--) {
                ask().fill(c);
            }
        }
        due("SHOVELS that were needed", ask().count(4), shovels);
        due("SHOVELS from then to now", ask().shovels(0), shovels);
        due("DEPTHS more than before", asked(), 0);
        due("EARTH that is left", ask().count(3), 0);
        due("HOLES behind carrying", holes(), n);
        int alike = ask().which(SHAPE, 0, i) & ask().which(DEEP, 0, i) & ask().which(TURNED, 0, i);
        due("the HOLE is there by SHAPE, TURNED, DEEP", alike != 0 ? 1 : 0, 1);
    }

    private void joined() {
        begin(depths);
        int n = holes();
        for (int i = 0; i < n; i++) {
            for (int j = 0; j < n; j++) {
                begin(depths);
                int one = hole(i, 0);
                int other = hole(j, 0);
                int least = ask().join(i, j);
                due("join(" + i + ", " + j + ") of the same", least == -1 ? 1 : 0, i == j ? 1 : 0);
                if (least > 0) {
                    joinOut(one, other, least);
                }
            }
        }
    }

    private void joinOut(int one, int other, int least) {
        int bits = asked();
        due("how many are to be DUG", Integer.bitCount(bits), least);
        for (int c = 0; c < depths.length; c++) {
            if (has(bits, c)) {
                // Without any of these it would not do: they are the fewest.
                due("two HOLES ahead of the last DUG", oneHole(one, other) ? 1 : 0, 0);
                due("dig(" + c + ")", ask().dig(c), 1);
            }
        }
        due("one HOLE behind join()", oneHole(one, other) ? 1 : 0, 1);
    }

    private boolean oneHole(int one, int other) {
        return cell(Integer.numberOfTrailingZeros(one), 2) == cell(Integer.numberOfTrailingZeros(other), 2);
    }

    private void parted() {
        begin(depths);
        int n = holes();
        for (int i = 0; i < n; i++) {
            begin(depths);
            int whole = hole(i, 0);
            int fewest = ask().part(i);
            if (fewest == NONE) {
                continue;
            }
            int bits = asked();
            due("CELLS that are not of HOLE " + i, bits & ~whole, 0);
            due("1 to 3 CELLS", Integer.bitCount(bits) >= 1 && Integer.bitCount(bits) <= 3 ? 1 : 0, 1);
            int[] after = depths.clone();
            int shovels = 0;
            for (int c = 0; c < after.length; c++) {
                if (has(bits, c)) {
                    shovels += after[c];
                    after[c] = 0;
                }
            }
            due("SHOVELS of part(" + i + ")", fewest, shovels);
            begin(after);
            due("more HOLES behind part(" + i + ")", holes() > n ? 1 : 0, 1);
        }
    }

    private void stolen() {
        for (int law = 0; law < LAWS.length(); law++) {
            begin(depths);
            int earth = 0;
            for (int c = 0; c < depths.length && earth < 3; c++) {
                earth += ask().dig(c) > 0 ? 1 : 0;
            }
            int n = ask().image(0);
            someDeeds(5);
            for (int c = 0; c < depths.length && ask().count(3) < 3; c++) {
                ask().dig(c);
            }
            if (n > 0 && ask().count(3) >= 3) {
                stealOne(law, lots.nextInt(n), lots.nextInt(4));
            }
        }
    }

    private void stealOne(int law, int i, int person) {
        int fewest = ask().steal(law, 0, i, person, 2);
        due("stolen already", isStolen(law, i, person) ? 1 : 0, fewest == 0 ? 1 : 0);
        if (fewest == NONE || fewest >= 2) {
            int deeds = ask().count(4);
            for (int c = 0; c < depths.length && calls < CALLS_MOST - 100; c++) {
                ask().dig(c);
                due("not by CELL " + c + " DUG alone", isStolen(law, i, person) ? 1 : 0, 0);
                ask().undo(deeds);
                ask().fill(c);
                due("not by CELL " + c + " FILLED alone", isStolen(law, i, person) ? 1 : 0, 0);
                ask().undo(deeds);
            }
        }
        int before = 0;
        for (int move = 0; move < fewest; move++) {
            due("at(2, " + move + ")", ask().at(2, move), 1);
            int what = asked();
            due("a move not ahead of the one before", what >= before ? 1 : 0, 1);
            before = what;
            due("the move is done", (what >= 100 ? ask().fill(what - 100) : ask().dig(what)) >= 0 ? 1 : 0, 1);
            due("stolen behind " + (move + 1), isStolen(law, i, person) ? 1 : 0, move + 1 == fewest ? 1 : 0);
        }
    }

    private boolean isStolen(int law, int i, int person) {
        int which = ask().which(law, 0, i);
        for (int j = 0; which >>> j != 0; j++) {
            if (has(which, j) && hole(j, 4) == person) {
                return true;
            }
        }
        return false;
    }

    private void rained() {
        begin(depths);
        int seed = 1 + lots.nextInt(2147483646);
        long before = ask().digest();
        int[] fewer = depths;
        for (int p = 0; p <= 12; p++) {
            begin(depths);
            due("HOLES behind the rain", ask().rain(p, seed), holes());
            int[] after = told();
            long lot = seed;
            for (int c = 0; c < after.length; c++) {
                if (depths[c] > 0) {
                    lot = lot * 48271 % 2147483647;
                }
                int less = depths[c] > 0 && lot % 12 < p ? 1 : 0;
                due("DEPTH of " + c + " behind a rain by " + p, after[c], depths[c] - less);
                due("a harder rain leaves no more of " + c, after[c] <= fewer[c] ? 1 : 0, 1);
            }
            fewer = after;
            due("EARTH of a rain", ask().count(3), 0);
            due("undo(0)", ask().undo(0), 1);
            due("digest() behind undoing", ask().digest(), before);
        }
    }

    private void kept() {
        begin(depths);
        someDeeds(4);
        int n = ask().image(0);
        int[] first = told();
        int firstEarth = ask().count(3);
        someDeeds(8);
        ask().rain(lots.nextInt(13), 1 + lots.nextInt(1000));
        ask().image(1);
        int[] second = told();
        int shovels = ask().shovels(0);
        int more = asked();
        int suspect = ask().suspect(0);
        if (suspect != NONE) {
            int by = asked();
            due("by how much it is deeper", second[suspect] - first[suspect], by);
            for (int c = 0; c < first.length; c++) {
                boolean less = c < suspect ? second[c] - first[c] < by : second[c] - first[c] <= by;
                due("no CELL ahead of the suspect, " + c, less ? 1 : 0, 1);
            }
        }
        due("on(0)", ask().on(0), n);
        due("DEEDS behind on(0)", ask().count(4), 0);
        due("EARTH behind on(0)", ask().count(3), firstEarth);
        int[] again = told();
        for (int c = 0; c < first.length; c++) {
            due("DEPTH of " + c + " behind on(0)", again[c], first[c]);
            due("a suspect where none is deeper", suspect != NONE || second[c] <= first[c] ? 1 : 0, 1);
        }
        due("SHOVELS the other way", ask().shovels(1), shovels);
        due("DEPTHS less the other way", asked(), -more);
        due("SHOVELS to what it is", ask().shovels(0), 0);
        int deepest = ask().suspect(1);
        due("on(1) by suspects", deepest == NONE || again[deepest] > second[deepest] ? 1 : 0, 1);
    }

    private void witnesses() {
        begin(depths);
        int n = lots.nextInt(6);
        ask().row(3, 3 * n);
        for (int w = 0; w < n; w++) {
            ask().lay(3, 3 * w, lots.nextInt(depths.length));
            ask().lay(3, 3 * w + 1, lots.nextInt(6));
            ask().lay(3, 3 * w + 2, lots.nextInt(3));
        }
        int best = NONE;
        int fewest = n + 1;
        due("day(3) without IMAGES", ask().day(3), NONE);
        for (int k = 0; k < 3; k++) {
            someDeeds(6);
            ask().image(k);
            int liars = ask().lies(3);
            int firstLiar = asked();
            due("a first who lies", firstLiar == NONE ? 1 : 0, liars == 0 ? 1 : 0);
            best = liars < fewest ? k : best;
            fewest = Math.min(liars, fewest);
        }
        due("grounds(3)", ask().grounds(3), 1);
        due("one GROUND at least, where none lies", fewest > 0 || ask().upper() > 0 ? 1 : 0, 1);
        due("lower()", ask().lower(), 1);
        due("day(3)", ask().day(3), best);
        due("how many lie", asked(), fewest);
        groundsOneByOne(n);
    }

    /** Looks at every DEPTH of one CELL about which all witnesses speak. */
    private void groundsOneByOne(int n) {
        int c = lots.nextInt(depths.length);
        begin(depths);
        ask().row(3, 3 * n);
        for (int w = 0; w < n; w++) {
            ask().lay(3, 3 * w, c);
            ask().lay(3, 3 * w + 1, lots.nextInt(6));
            ask().lay(3, 3 * w + 2, 1 + lots.nextInt(2));
        }
        int wants = 0;
        for (int depth = 0; depth < 5; depth++) {
            ask().dig(c);
        }
        // Six rains by 12 of 12 leave it at 5, 4, .. 0 one after the other.
        for (int depth = 5; depth >= 0; depth--) {
            due("DEPTH of " + c, cell(c, 0), depth);
            wants += ask().lies(3) == 0 ? 1 : 0;
            ask().rain(12, 1);
        }
        due("grounds(3) of one CELL", ask().grounds(3), 1);
        due("its number", ask().upper(), n == 0 ? 1 : wants);
    }

    private void heapsOfHoles() {
        begin(depths);
        int n = holes();
        if (n < 1 || n > 6) {
            return;
        }
        List<Integer> heaps = new ArrayList<>();
        for (int i = 0; i < n; i++) {
            heaps.add(hole(i, 2));
        }
        // HOLES that are alike may change their heaps.
        long ways = 1;
        for (int i = 0; i < n; i++) {
            ways *= heaps.subList(0, i + 1).stream().filter(heaps.get(i)::equals).count();
        }
        due("heaps, one of each HOLE", waysOf(heaps), ways);
        heaps.set(0, heaps.get(0) + 1);
        due("heaps, one of them too large", waysOf(heaps), 0);
    }

    private long waysOf(List<Integer> heaps) {
        ask().row(4, heaps.size());
        for (int h = 0; h < heaps.size(); h++) {
            ask().lay(4, h, heaps.get(h));
        }
        due("heaps(4) where the largest is within 80", ask().heaps(4), heaps.get(0) <= 80 ? 1 : -3);
        return heaps.get(0) <= 80 ? ask().upper() : 0;
    }

    private void sharesAndOdds() {
        begin(depths);
        int n = holes();
        for (int i = 0; i < n; i++) {
            Part all = new Part(0, 1);
            for (int person = 0; person < 4; person++) {
                due("share(" + i + ", " + person + ")", ask().share(i, person), 1);
                all = all.plus(part());
            }
            due("all shares together", all.is(new Part(1, 1)) ? 1 : 0, 1);
            int p = lots.nextInt(13);
            Part stays = new Part(1, 1);
            int bits = hole(i, 0);
            for (int c = 0; c < depths.length; c++) {
                if (has(bits, c)) {
                    due("gone(" + c + ", 1, " + p + ")", ask().gone(c, 1, p), 1);
                    stays = stays.times(part().rest());
                }
            }
            due("odds(" + i + ", " + p + ")", ask().odds(i, p), 1);
            due("the RIM stays, if each CELL does", part().is(stays) ? 1 : 0, 1);
        }
    }

    /** One HOLE on a square of four by four, dug, kept, undone, and dug again turned and mirrored. */
    private void turnedAbout() {
        boolean[][] form = new boolean[4][4];
        int line = lots.nextInt(4);
        int column = lots.nextInt(4);
        for (int step = 0; step < 9; step++) {
            form[line][column] = true;
            int by = lots.nextBoolean() ? 1 : -1;
            if (lots.nextBoolean()) {
                line = Math.max(0, Math.min(3, line + by));
            } else {
                column = Math.max(0, Math.min(3, column + by));
            }
        }
        String shape = cornered(form);
        boolean[][] mirrored = quarter(form, true);
        boolean sameMirrored = false;
        boolean[][] turned = form;
        boolean[][] turnedMirror = mirrored;
        for (int quarter = 0; quarter < 4; quarter++) {
            alikeIs(form, turned, shape.equals(cornered(turned)), true);
            sameMirrored = sameMirrored || shape.equals(cornered(turnedMirror));
            turned = quarter(turned, false);
            turnedMirror = quarter(turnedMirror, false);
        }
        alikeIs(form, mirrored, shape.equals(cornered(mirrored)), sameMirrored);
    }

    private void alikeIs(boolean[][] form, boolean[][] other, boolean byShape, boolean byTurned) {
        x = new HoleMoved();
        calls = 0;
        String text = "0000/0000/0000/0000=0123" + LAWS;
        ask().text(0, text.length());
        for (int i = 0; i < text.length(); i++) {
            ask().put(0, i, text.charAt(i));
        }
        ask().ground(0);
        digForm(form);
        due("one HOLE of then", ask().image(0), 1);
        ask().undo(0);
        digForm(other);
        due("one HOLE of now", holes(), 1);
        due(cornered(form) + " is " + cornered(other) + " by SHAPE", ask().same(SHAPE, 0, 0, 0), byShape ? 1 : 0);
        due(cornered(form) + " is " + cornered(other) + " by TURNED", ask().same(TURNED, 0, 0, 0), byTurned ? 1 : 0);
    }

    private void digForm(boolean[][] form) {
        for (int c = 0; c < 16; c++) {
            if (form[c / 4][c % 4]) {
                ask().dig(c);
            }
        }
    }

    /** Turned by a quarter ahead, or laid on its other side. */
    private static boolean[][] quarter(boolean[][] form, boolean mirrored) {
        boolean[][] other = new boolean[4][4];
        for (int line = 0; line < 4; line++) {
            for (int column = 0; column < 4; column++) {
                other[column][mirrored ? line : 3 - line] = form[line][column];
            }
        }
        return other;
    }

    /** How a form looks, wherever it lies: without the empty lines and columns ahead of it. */
    private static String cornered(boolean[][] form) {
        int firstLine = 4;
        int firstColumn = 4;
        for (int c = 0; c < 16; c++) {
            if (form[c / 4][c % 4]) {
                firstLine = Math.min(firstLine, c / 4);
                firstColumn = Math.min(firstColumn, c % 4);
            }
        }
        StringBuilder signs = new StringBuilder();
        for (int c = 0; c < 16; c++) {
            if (form[c / 4][c % 4]) {
                signs.append((char) ('a' + c / 4 - firstLine)).append(c % 4 - firstColumn);
            }
        }
        return signs.toString();
    }

    /** What was told as a fraction; it is told in lowest terms. */
    private Part part() {
        long upper = ask().upper();
        long lower = ask().lower();
        Part told = new Part(upper, lower);
        due("lower() above 0", lower > 0 ? 1 : 0, 1);
        due("a divisor of " + upper + " and " + lower, told.upper.gcd(told.lower).longValue(), 1);
        return told;
    }

    /** A chance hangs on those of one rain less: by p of 12 it is 1 less deep, else as deep. */
    private static void chancesOfEachDepth() {
        TogetherTest t = new TogetherTest(0);
        for (int p = 0; p <= 12; p++) {
            Part[] before = new Part[6];
            for (int rains = 0; rains <= 8; rains++) {
                t.x = new HoleMoved();
                t.calls = 0;
                String text = "012/345=000";
                t.ask().text(0, text.length());
                for (int i = 0; i < text.length(); i++) {
                    t.ask().put(0, i, text.charAt(i));
                }
                t.ask().ground(0);
                Part[] now = new Part[6];
                for (int depth = 0; depth <= 5; depth++) {
                    t.due("gone()", t.ask().gone(depth, rains, p), 1);
                    now[depth] = t.part();
                    Part due = new Part(depth == 0 ? 1 : 0, 1);
                    if (rains > 0 && depth > 0) {
                        due = before[depth - 1].times(new Part(p, 12)).plus(before[depth].times(new Part(12 - p, 12)));
                    }
                    t.due("gone(" + depth + ", " + rains + ", " + p + ")", now[depth].is(due) ? 1 : 0, 1);
                }
                before = now;
            }
        }
    }

    /** A fraction of any size. */
    private static final class Part {
        final BigInteger upper;
        final BigInteger lower;

        Part(long upper, long lower) {
            this(BigInteger.valueOf(upper), BigInteger.valueOf(lower));
        }

        Part(BigInteger upper, BigInteger lower) {
            this.upper = upper;
            this.lower = lower;
        }

        Part plus(Part other) {
            return new Part(upper.multiply(other.lower).add(other.upper.multiply(lower)), lower.multiply(other.lower));
        }

        Part times(Part other) {
            return new Part(upper.multiply(other.upper), lower.multiply(other.lower));
        }

        Part rest() {
            return new Part(lower.subtract(upper), lower);
        }

        boolean is(Part other) {
            return upper.multiply(other.lower).equals(other.upper.multiply(lower));
        }
    }
}
