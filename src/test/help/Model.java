import java.math.BigInteger;
import java.util.ArrayList;
import java.util.Arrays;
import java.util.List;
import java.util.TreeSet;
import java.util.regex.Matcher;
import java.util.regex.Pattern;

/** The document, as plainly as can be. */
final class Model {
    static final Pattern GROUND = Pattern.compile(" *(?:(?:[0-5]{2}/){0,3}[0-5]{2}=[0-3]{2}"
            + "|(?:[0-5]{3}/){0,3}[0-5]{3}=[0-3]{3}|(?:[0-5]{4}/){0,3}[0-5]{4}=[0-3]{4})[prsbtd]{0,6} *");
    static final String LETTERS = "prsbtd";
    static final String[] IS = {"p", "rp", "srp", "bp", "tsrp", "dbp"};

    final int[][] rows = new int[6][];
    final byte[][] texts = new byte[4][];
    int columns;
    String gardens = "";
    String laws = "";
    Pits now = new Pits();
    final Pits[] images = new Pits[3];
    final List<Pits> deeds = new ArrayList<>();
    int asked;
    long upper;
    long lower = 1;
    int finding;
    final int[] findings = new int[6];

    int cells() {
        return now.depths.length;
    }

    boolean beside(int c, int d) {
        return Math.abs(c % columns - d % columns) + Math.abs(c / columns - d / columns) == 1;
    }

    static boolean off(int v, int n) {
        return v < 0 || v >= n;
    }

    int found(int f) {
        finding = f;
        findings[f]++;
        return -3;
    }

    int tell(int v) {
        asked = v;
        return 1;
    }

    int tell(BigInteger up, BigInteger low) {
        BigInteger g = up.gcd(low);
        upper = up.divide(g).longValueExact();
        lower = low.divide(g).longValueExact();
        return 1;
    }

    static int bits(Iterable<Integer> cells) {
        int bits = 0;
        for (int c : cells) {
            bits |= 1 << c;
        }
        return bits;
    }

    int row(int r, int n) {
        if (off(r, 6) || n > 40) return -1;
        if (n < 0) return found(5);
        rows[r] = new int[n];
        return n;
    }

    int lay(int r, int i, int v) {
        if (off(r, 6)) return -1;
        if (rows[r] == null) return found(1);
        if (off(i, rows[r].length)) return found(2);
        asked = rows[r][i];
        rows[r][i] = v;
        return 1;
    }

    int at(int r, int i) {
        if (off(r, 6)) return -1;
        if (rows[r] == null) return found(1);
        if (off(i, rows[r].length)) return found(2);
        return tell(rows[r][i]);
    }

    int tear(int r) {
        if (off(r, 6)) return -1;
        if (rows[r] == null) return found(1);
        rows[r] = null;
        return 1;
    }

    int copy(int r, int i, int to, int j, int n) {
        if (off(r, 6) || off(to, 6)) return -1;
        if (n < 0) return found(5);
        if (rows[r] == null || rows[to] == null) return found(1);
        if (i < 0 || j < 0 || (long) i + n > rows[r].length || (long) j + n > rows[to].length) return found(2);
        int[] taken = Arrays.copyOfRange(rows[r], i, i + n);
        for (int k = 0; k < n; k++) {
            rows[to][j + k] = taken[k];
        }
        return 1;
    }

    int mean(int r) {
        if (off(r, 6)) return -1;
        if (rows[r] == null) return found(1);
        if (rows[r].length == 0) return found(4);
        BigInteger sum = BigInteger.ZERO;
        for (int v : rows[r]) {
            sum = sum.add(BigInteger.valueOf(v));
        }
        return tell(sum.divide(BigInteger.valueOf(rows[r].length)).intValueExact());
    }

    int text(int t, int n) {
        if (off(t, 4) || n > 60) return -1;
        if (n < 0) return found(5);
        texts[t] = new byte[n];
        Arrays.fill(texts[t], (byte) ' ');
        return n;
    }

    int put(int t, int i, int v) {
        if (off(t, 4)) return -1;
        if (texts[t] == null) return found(1);
        if (off(i, texts[t].length)) return found(2);
        int was = texts[t][i];
        texts[t][i] = (byte) v;
        return was + 1000;
    }

    String signs(int t) {
        StringBuilder s = new StringBuilder();
        for (byte b : texts[t]) {
            s.append((char) (b & 255));
        }
        return s.toString();
    }

    /** The first place whose sign no GROUND could have behind those ahead of it. */
    int fault(int t) {
        if (off(t, 4)) return -1;
        if (texts[t] == null) return found(1);
        String s = signs(t);
        for (int n = 1; n <= s.length(); n++) {
            Matcher matcher = GROUND.matcher(s.substring(0, n));
            if (!matcher.matches() && !matcher.hitEnd()) {
                return n - 1;
            }
        }
        return GROUND.matcher(s).matches() ? -9 : s.length();
    }

    int ground(int t) {
        if (off(t, 4)) return -1;
        if (texts[t] == null) return found(1);
        if (fault(t) != -9) return -4;
        String s = signs(t).trim();
        String depths = s.substring(0, s.indexOf('='));
        columns = depths.split("/")[0].length();
        gardens = s.substring(s.indexOf('=') + 1, s.indexOf('=') + 1 + columns);
        laws = s.substring(s.indexOf('=') + 1 + columns);
        now = new Pits();
        now.depths = depths.replace("/", "").chars().map(c -> c - '0').toArray();
        deeds.clear();
        Arrays.fill(images, null);
        return cells();
    }

    int cellTold(int c, int what) {
        if (what == 0) return now.depths[c];
        if (what == 1) return gardens.charAt(c % columns) - '0';
        List<TreeSet<Integer>> holes = now.holes(this);
        for (int i = 0; i < holes.size(); i++) {
            if (holes.get(i).contains(c)) return i;
        }
        return -9;
    }

    int cell(int c, int what) {
        return off(c, cells()) || off(what, 3) ? -1 : tell(cellTold(c, what));
    }

    int law(int k) {
        return off(k, laws.length()) ? -1 : LETTERS.indexOf(laws.charAt(k));
    }

    int mark(int k, int kind) {
        if (off(k, laws.length()) || kind < 1 || kind > 5) return -1;
        int own = law(k);
        if (IS[own].indexOf(LETTERS.charAt(kind)) < 0) return found(3);
        List<TreeSet<Integer>> holes = now.holes(this);
        if (kind == 1) return holes.stream().mapToInt(TreeSet::size).max().orElse(0);
        if (kind == 3) return Arrays.stream(now.depths).sum();
        if (kind == 5) return Arrays.stream(now.depths).max().orElse(0);
        int pairs = 0;
        for (int j = 0; j < holes.size(); j++) {
            for (int i = 0; i < j; i++) {
                boolean shape = sameBy(2, now, holes.get(i), now, holes.get(j));
                boolean turned = sameBy(4, now, holes.get(i), now, holes.get(j));
                boolean counts = kind == 4 ? turned && !shape : own == 4 ? turned : shape;
                pairs += counts ? 1 : 0;
            }
        }
        return pairs;
    }

    int owner(TreeSet<Integer> hole) {
        int[] n = new int[4];
        for (int c : hole) {
            n[gardens.charAt(c % columns) - '0']++;
        }
        int best = 0;
        for (int p = 1; p < 4; p++) {
            if (n[p] > n[best]) best = p;
        }
        return best;
    }

    int holeTold(Pits pits, int i, int what) {
        TreeSet<Integer> hole = pits.holes(this).get(i);
        switch (what) {
            case 0: return bits(hole);
            case 1: return hole.size();
            case 2: return pits.volume(hole);
            case 3: return pits.bottom(hole);
            default: return owner(hole);
        }
    }

    int hole(int i, int what) {
        return off(i, now.holes(this).size()) || off(what, 5) ? -1 : tell(holeTold(now, i, what));
    }

    int dig(int c) {
        if (off(c, cells())) return -1;
        if (now.depths[c] == 5) return -4;
        if (deeds.size() == 40) return -2;
        deeds.add(now.copy());
        now.earth++;
        return ++now.depths[c];
    }

    int fill(int c) {
        if (off(c, cells())) return -1;
        if (now.depths[c] == 0 || now.earth == 0) return -4;
        if (deeds.size() == 40) return -2;
        deeds.add(now.copy());
        now.earth--;
        return --now.depths[c];
    }

    int rain(int p, int seed) {
        if (off(p, 13) || seed < 1 || seed > 2147483646) return -1;
        if (cells() == 0) return -4;
        if (deeds.size() == 40) return -2;
        deeds.add(now.copy());
        BigInteger lot = BigInteger.valueOf(seed);
        for (int c = 0; c < cells(); c++) {
            if (now.depths[c] > 0) {
                lot = lot.multiply(BigInteger.valueOf(48271)).mod(BigInteger.valueOf(2147483647));
                if (lot.intValue() % 12 < p) now.depths[c]--;
            }
        }
        return now.holes(this).size();
    }

    int undo(int n) {
        if (n < 0 || n > deeds.size()) return -1;
        int many = deeds.size() - n;
        if (many > 0) now = deeds.get(n).copy();
        while (deeds.size() > n) {
            deeds.remove(n);
        }
        return many;
    }

    int image(int k) {
        if (off(k, 3)) return -1;
        if (cells() == 0) return -4;
        images[k] = now.copy();
        return now.holes(this).size();
    }

    int on(int k) {
        if (off(k, 3)) return -1;
        if (images[k] == null) return found(1);
        now = images[k].copy();
        deeds.clear();
        return now.holes(this).size();
    }

    int then(int k, int i, int what) {
        if (off(k, 3) || off(what, 5)) return -1;
        if (images[k] == null) return found(1);
        return off(i, images[k].holes(this).size()) ? -1 : tell(holeTold(images[k], i, what));
    }

    /** Points by columns and lines, so pushed that the least of each is 0. */
    String shape(TreeSet<Integer> hole, int turns) {
        List<int[]> points = new ArrayList<>();
        int left = 99;
        int top = 99;
        for (int c : hole) {
            int x = c % columns;
            int y = c / columns;
            for (int t = 0; t < turns; t++) {
                int old = x;
                x = -y;
                y = old;
            }
            points.add(new int[] {x, y});
            left = Math.min(left, x);
            top = Math.min(top, y);
        }
        TreeSet<String> told = new TreeSet<>();
        for (int[] p : points) {
            told.add((p[0] - left) + "," + (p[1] - top));
        }
        return told.toString();
    }

    boolean sameBy(int kind, Pits then, TreeSet<Integer> a, Pits of, TreeSet<Integer> b) {
        switch (kind) {
            case 0:
                TreeSet<Integer> common = new TreeSet<>(a);
                common.retainAll(b);
                return !common.isEmpty();
            case 1: return a.equals(b);
            case 2: return shape(a, 0).equals(shape(b, 0));
            case 3: return then.volume(a) == of.volume(b);
            case 4:
                for (int turns = 0; turns < 4; turns++) {
                    if (shape(a, turns).equals(shape(b, 0))) return true;
                }
                return false;
            default: return then.volume(a) == of.volume(b) && then.bottom(a) == of.bottom(b);
        }
    }

    int same(int law, int k, int i, int j) {
        if (off(law, laws.length()) || off(k, 3)) return -1;
        if (images[k] == null) return found(1);
        List<TreeSet<Integer>> olds = images[k].holes(this);
        List<TreeSet<Integer>> news = now.holes(this);
        if (off(i, olds.size()) || off(j, news.size())) return -1;
        return sameBy(law(law), images[k], olds.get(i), now, news.get(j)) ? 1 : 0;
    }

    int which(int law, int k, int i) {
        if (off(law, laws.length()) || off(k, 3)) return -1;
        if (images[k] == null) return found(1);
        if (off(i, images[k].holes(this).size())) return -1;
        int bits = 0;
        for (int j = 0; j < now.holes(this).size(); j++) {
            bits |= same(law, k, i, j) << j;
        }
        return bits;
    }

    int doubt(int law, int k) {
        if (off(law, laws.length()) || off(k, 3)) return -1;
        if (images[k] == null) return found(1);
        int both = 0;
        int neither = 0;
        for (int i = 0; i < images[k].holes(this).size(); i++) {
            int n = Integer.bitCount(which(law, k, i));
            both += n > 1 ? 1 : 0;
            neither += n == 0 ? 1 : 0;
        }
        asked = neither;
        return both;
    }

    int fair(int k) {
        if (off(k, 3)) return -1;
        if (images[k] == null) return found(1);
        int fair = 0;
        int olds = images[k].holes(this).size();
        int news = now.holes(this).size();
        for (int law = 0; law < laws.length(); law++) {
            boolean is = true;
            for (int i = 0; i < olds; i++) {
                int n = 0;
                for (int j = 0; j < news; j++) n += same(law, k, i, j);
                is &= n == 1;
            }
            for (int j = 0; j < news; j++) {
                int n = 0;
                for (int i = 0; i < olds; i++) n += same(law, k, i, j);
                is &= n == 1;
            }
            fair |= is ? 1 << law : 0;
        }
        return fair;
    }

    int shovels(int k) {
        if (off(k, 3)) return -1;
        if (images[k] == null) return found(1);
        int n = 0;
        for (int c = 0; c < cells(); c++) {
            n += Math.abs(now.depths[c] - images[k].depths[c]);
        }
        asked = Arrays.stream(now.depths).sum() - Arrays.stream(images[k].depths).sum();
        return n;
    }

    int suspect(int k) {
        if (off(k, 3)) return -1;
        if (images[k] == null) return found(1);
        for (int by = 5; by > 0; by--) {
            for (int c = 0; c < cells(); c++) {
                if (now.depths[c] - images[k].depths[c] == by) {
                    asked = by;
                    return c;
                }
            }
        }
        return -9;
    }

    int carry(int i, int dx, int dy) {
        List<TreeSet<Integer>> holes = now.holes(this);
        if (off(i, holes.size())) return -1;
        int[] after = now.depths.clone();
        for (int c : holes.get(i)) {
            after[c] = 0;
        }
        int[] rest = after.clone();
        for (int c : holes.get(i)) {
            long x = (long) c % columns + dx;
            long y = (long) c / columns + dy;
            if (x < 0 || y < 0 || x >= columns || y >= cells() / columns) return -9;
            int to = (int) (y * columns + x);
            for (int d = 0; d < cells(); d++) {
                if (rest[d] > 0 && (d == to || beside(d, to))) return -9;
            }
            after[to] = now.depths[c];
        }
        int n = 0;
        for (int c = 0; c < cells(); c++) {
            n += Math.abs(after[c] - now.depths[c]);
        }
        return n;
    }

    int join(int i, int j) {
        List<TreeSet<Integer>> holes = now.holes(this);
        if (off(i, holes.size()) || off(j, holes.size()) || i == j) return -1;
        int a = holes.get(i).first();
        int b = holes.get(j).first();
        int best = 0;
        for (int set = 1; set < 1 << cells(); set++) {
            int n = Integer.bitCount(set);
            if (n > 4 || best != 0 && n >= Integer.bitCount(best)) continue;
            Pits dug = now.copy();
            boolean can = true;
            for (int c = 0; c < cells(); c++) {
                if ((set >> c & 1) != 0) can &= ++dug.depths[c] <= 5;
            }
            if (!can) continue;
            TreeSet<Integer> hole = new TreeSet<>();
            dug.reach(this, a, hole);
            if (hole.contains(b)) best = set;
        }
        if (best == 0) return -9;
        asked = best;
        return Integer.bitCount(best);
    }

    int part(int i) {
        List<TreeSet<Integer>> holes = now.holes(this);
        if (off(i, holes.size())) return -1;
        TreeSet<Integer> hole = holes.get(i);
        int best = 0;
        int fewest = 999;
        for (int set = 1; set < 1 << cells(); set++) {
            if (Integer.bitCount(set) > 3 || (set & ~bits(hole)) != 0) continue;
            Pits filled = new Pits();
            filled.depths = new int[cells()];
            int n = 0;
            for (int c : hole) {
                filled.depths[c] = (set >> c & 1) != 0 ? 0 : now.depths[c];
                n += now.depths[c] - filled.depths[c];
            }
            if (n < fewest && filled.holes(this).size() >= 2) {
                fewest = n;
                best = set;
            }
        }
        if (best == 0) return -9;
        asked = best;
        return fewest;
    }

    int steal(int law, int k, int i, int person, int r) {
        if (off(law, laws.length()) || off(k, 3) || off(person, 4) || off(r, 6)) return -1;
        if (images[k] == null) return found(1);
        List<TreeSet<Integer>> olds = images[k].holes(this);
        if (off(i, olds.size())) return -1;
        for (int n = 0; n <= 3; n++) {
            List<Integer> way = new ArrayList<>();
            if (stolen(law(law), images[k], olds.get(i), person, now.copy(), way, n)) {
                rows[r] = way.stream().mapToInt(v -> v).toArray();
                return n;
            }
        }
        return -9;
    }

    boolean stolen(int kind, Pits then, TreeSet<Integer> old, int person, Pits of, List<Integer> way, int left) {
        if (left == 0) {
            for (TreeSet<Integer> hole : of.holes(this)) {
                if (owner(hole) == person && sameBy(kind, then, old, of, hole)) return true;
            }
            return false;
        }
        for (int move = 0; move < 116; move++) {
            int c = move % 100;
            int by = move < 100 ? 1 : -1;
            if (c >= cells() || off(of.depths[c] + by, 6)) continue;
            of.depths[c] += by;
            way.add(move);
            if (stolen(kind, then, old, person, of, way, left - 1)) return true;
            way.remove(way.size() - 1);
            of.depths[c] -= by;
        }
        return false;
    }

    int share(int i, int person) {
        List<TreeSet<Integer>> holes = now.holes(this);
        if (off(i, holes.size()) || off(person, 4)) return -1;
        int in = 0;
        for (int c : holes.get(i)) {
            in += cellTold(c, 1) == person ? now.depths[c] : 0;
        }
        return tell(BigInteger.valueOf(in), BigInteger.valueOf(now.volume(holes.get(i))));
    }

    int heaps(int r) {
        if (off(r, 6)) return -1;
        if (rows[r] == null) return found(1);
        if (rows[r].length < 1 || rows[r].length > 6) return found(5);
        for (int v : rows[r]) {
            if (v < 1 || v > 80) return found(3);
        }
        List<TreeSet<Integer>> holes = now.holes(this);
        int all = 1;
        for (int heap = 0; heap < rows[r].length; heap++) {
            all *= holes.size();
        }
        int ways = 0;
        for (int way = 0; way < all; way++) {
            int[] sums = new int[holes.size()];
            int rest = way;
            for (int v : rows[r]) {
                sums[rest % holes.size()] += v;
                rest /= holes.size();
            }
            boolean fits = true;
            for (int i = 0; i < sums.length; i++) {
                fits &= sums[i] == now.volume(holes.get(i));
            }
            ways += fits ? 1 : 0;
        }
        return tell(BigInteger.valueOf(ways), BigInteger.ONE);
    }

    /** 0, or the finding with which witnesses are refused. */
    int refusal(int r) {
        if (rows[r] == null) return 1;
        if (rows[r].length % 3 != 0) return 5;
        for (int w = 0; w < rows[r].length; w += 3) {
            if (off(rows[r][w], cells()) || off(rows[r][w + 1], 6) || off(rows[r][w + 2], 3)) return 3;
        }
        return 0;
    }

    boolean lie(int r, int w, int depth) {
        int sign = Integer.signum(depth - rows[r][3 * w + 1]);
        int how = rows[r][3 * w + 2];
        return how == 0 ? sign != 0 : how == 1 ? sign < 0 : sign > 0;
    }

    TreeSet<Integer> liars(int r, Pits pits) {
        TreeSet<Integer> liars = new TreeSet<>();
        for (int w = 0; w < rows[r].length / 3; w++) {
            if (lie(r, w, pits.depths[rows[r][3 * w]])) liars.add(w);
        }
        return liars;
    }

    int lies(int r) {
        if (off(r, 6)) return -1;
        if (refusal(r) != 0) return found(refusal(r));
        TreeSet<Integer> liars = liars(r, now);
        asked = liars.isEmpty() ? -9 : liars.first();
        return liars.size();
    }

    int day(int r) {
        if (off(r, 6)) return -1;
        if (refusal(r) != 0) return found(refusal(r));
        int best = -9;
        for (int k = 2; k >= 0; k--) {
            if (images[k] == null) continue;
            if (best < 0 || liars(r, images[k]).size() <= liars(r, images[best]).size()) best = k;
        }
        if (best >= 0) asked = liars(r, images[best]).size();
        return best;
    }

    int grounds(int r) {
        if (off(r, 6)) return -1;
        if (refusal(r) != 0) return found(refusal(r));
        TreeSet<Integer> spoken = new TreeSet<>();
        for (int w = 0; w < rows[r].length; w += 3) {
            spoken.add(rows[r][w]);
        }
        return tell(BigInteger.valueOf(groundsWith(r, new ArrayList<>(spoken), 0, new Pits[] {now.copy()})), BigInteger.ONE);
    }

    long groundsWith(int r, List<Integer> spoken, int from, Pits[] holder) {
        if (from == spoken.size()) {
            return liars(r, holder[0]).isEmpty() ? 1 : 0;
        }
        long n = 0;
        for (int depth = 0; depth <= 5; depth++) {
            holder[0].depths[spoken.get(from)] = depth;
            n += groundsWith(r, spoken, from + 1, holder);
        }
        return n;
    }

    int odds(int i, int p) {
        List<TreeSet<Integer>> holes = now.holes(this);
        if (off(i, holes.size()) || off(p, 13)) return -1;
        List<Integer> hole = new ArrayList<>(holes.get(i));
        BigInteger up = BigInteger.ZERO;
        for (int set = 0; set < 1 << hole.size(); set++) {
            boolean kept = true;
            for (int c = 0; c < hole.size(); c++) {
                kept &= now.depths[hole.get(c)] - (set >> c & 1) > 0;
            }
            if (kept) up = up.add(weight(Integer.bitCount(set), hole.size(), p));
        }
        return tell(up, BigInteger.valueOf(12).pow(hole.size()));
    }

    static BigInteger weight(int rained, int n, int p) {
        return BigInteger.valueOf(p).pow(rained).multiply(BigInteger.valueOf(12 - p).pow(n - rained));
    }

    int gone(int c, int n, int p) {
        if (off(c, cells()) || off(n, 9) || off(p, 13)) return -1;
        BigInteger up = BigInteger.ZERO;
        for (int set = 0; set < 1 << n; set++) {
            if (Integer.bitCount(set) >= now.depths[c]) up = up.add(weight(Integer.bitCount(set), n, p));
        }
        return tell(up, BigInteger.valueOf(12).pow(n));
    }

    int count(int what) {
        switch (what) {
            case 0: return cells();
            case 1: return columns;
            case 2: return now.holes(this).size();
            case 3: return now.earth;
            case 4: return deeds.size();
            case 5: return laws.length();
            case 6: return laws.replaceAll("[pbd]", "").length();
            case 7: return (int) Arrays.stream(rows).filter(row -> row != null).count();
            case 8: int n = 0; for (byte[] text : texts) n += text != null ? 1 : 0; return n;
            case 9: return (int) Arrays.stream(images).filter(image -> image != null).count();
            default: return -1;
        }
    }

    long digest() {
        List<Integer> told = new ArrayList<>();
        for (int what = 0; what < 10; what++) told.add(count(what));
        for (int c = 0; c < cells(); c++) {
            for (int what = 0; what < 3; what++) told.add(cellTold(c, what));
        }
        for (int k = 0; k < laws.length(); k++) told.add(law(k));
        for (Pits image : images) {
            if (image == null) {
                told.add(-1);
            } else {
                for (int depth : image.depths) told.add(depth);
                told.add(image.earth);
            }
        }
        for (int[] row : rows) {
            told.add(row == null ? -1 : row.length);
            if (row != null) for (int v : row) told.add(v);
        }
        for (byte[] text : texts) {
            told.add(text == null ? -1 : text.length);
            if (text != null) for (byte v : text) told.add((int) v);
        }
        long h = 17;
        for (int v : told) h = 31 * h + v;
        return h;
    }
}
