import java.util.ArrayList;
import java.util.Arrays;
import java.util.List;
import java.util.Random;
import java.util.TreeSet;

/**
 * Long runs of chosen calls on the class and on a plain model of the document, which holds sets of
 * points, tries everything, and undoes DEEDS by whole copies. Every answer must be the same, and so
 * must be all that is told, after every call.
 */
public final class ModelTest {
    private static final int RUNS = 6000;
    // What an object answers behind so many calls is free; no step takes more than STEP_MOST of them.
    private static final int CALLS_MOST = 512, STEP_MOST = 80;

    private static int wrong;

    public static void main(String[] args) {
        for (int run = 0; run < RUNS && wrong < 20; run++) {
            new Run(run).go();
        }
        System.out.println(wrong == 0 ? RUNS + " runs are as the model's" : wrong + " answers are not the model's");
        if (wrong != 0) {
            System.exit(1);
        }
    }

    /** One run of calls on a new object and a new model, chosen by a seed. */
    private static final class Run {
        final int number;
        final Random lots;
        final HoleMoved x = new HoleMoved();
        final Model m = new Model();
        final List<String> calls = new ArrayList<>();
        int steals;
        int made;

        Run(int number) {
            this.number = number;
            this.lots = new Random(number * 7919L + 1);
        }

        void go() {
            for (int step = 0; made + STEP_MOST <= CALLS_MOST; step++) {
                int before = wrong;
                if (step == 0 || lots.nextInt(40) == 0) {
                    writeGround(lots.nextInt(4));
                } else if (lots.nextInt(60) == 0) {
                    manyDeeds();
                } else {
                    one(lots.nextInt(46));
                }
                check("asked()", x.asked(), m.asked);
                check("upper()", x.upper(), m.upper);
                check("lower()", x.lower(), m.lower);
                check("finding()", x.finding(), m.finding);
                check("digest()", x.digest(), m.digest());
                if (wrong != before) {
                    System.out.println("  behind " + calls);
                    return;
                }
            }
            for (int f = 1; f <= 5; f++) {
                check("findings(" + f + ")", x.findings(f), m.findings[f]);
            }
        }

        void check(String call, long got, long want) {
            made++;
            if (got != want) {
                wrong++;
                System.out.println("run " + number + ": " + call + " answered " + got + ", the model " + want);
            }
        }

        /** Mostly within 0 .. n - 1, at times just beyond, seldom far off. */
        int pick(int n) {
            int lot = lots.nextInt(40);
            if (lot == 0) {
                return -1;
            }
            if (lot == 1) {
                return n;
            }
            if (lot == 2) {
                return lots.nextInt();
            }
            return n <= 0 ? lots.nextInt(2) : lots.nextInt(n);
        }

        String sketch() {
            StringBuilder s = new StringBuilder();
            s.append(" ".repeat(lots.nextInt(3)));
            int columns = 2 + lots.nextInt(3);
            int lines = 1 + lots.nextInt(4);
            int sparse = lots.nextInt(4);
            for (int line = 0; line < lines; line++) {
                s.append(line > 0 ? "/" : "");
                for (int column = 0; column < columns; column++) {
                    s.append(lots.nextInt(4) < sparse ? 0 : lots.nextInt(6));
                }
            }
            s.append('=');
            int persons = 1 + lots.nextInt(4);
            for (int column = 0; column < columns; column++) {
                s.append(lots.nextInt(persons));
            }
            int laws = lots.nextInt(7);
            for (int law = 0; law < laws; law++) {
                s.append("prsbtd".charAt(lots.nextInt(6)));
            }
            s.append(" ".repeat(lots.nextInt(3)));
            return s.toString();
        }

        String spoilt(String s) {
            int at = lots.nextInt(s.length() + 1);
            char sign = " 012345678/=prsbtdxP".charAt(lots.nextInt(20));
            switch (lots.nextInt(5)) {
                case 0:
                    return s.substring(0, at) + sign + s.substring(at);
                case 1:
                    return s.substring(0, at) + s.substring(Math.min(s.length(), at + 1));
                case 2:
                    return s.substring(0, at);
                case 3:
                    return s.replace("=", "/0123=");
                default:
                    return s.substring(0, at) + sign + s.substring(Math.min(s.length(), at + 1));
            }
        }

        void writeGround(int t) {
            String s = sketch();
            if (lots.nextInt(4) == 0) {
                s = spoilt(s);
            }
            if (lots.nextInt(12) == 0) {
                s = spoilt(s);
            }
            s = s.substring(0, Math.min(60, s.length()));
            calls.add("ground \"" + s + "\"");
            check("text", x.text(t, s.length()), m.text(t, s.length()));
            for (int i = 0; i < s.length(); i++) {
                if (s.charAt(i) != ' ') {
                    check("put", x.put(t, i, s.charAt(i)), m.put(t, i, s.charAt(i)));
                }
            }
            check("fault(" + t + ") of \"" + s + "\"", x.fault(t), m.fault(t));
            check("ground(" + t + ")", x.ground(t), m.ground(t));
        }

        void writeWitnesses(int r) {
            int n = lots.nextInt(6);
            int[] values = new int[3 * n];
            for (int w = 0; w < n; w++) {
                values[3 * w] = pick(m.cells());
                values[3 * w + 1] = pick(6);
                values[3 * w + 2] = pick(3);
            }
            writeRow(r, values);
            calls.add("witnesses " + r + " " + Arrays.toString(m.rows[r]));
        }

        /** Heaps that are at times parts of the HOLES' VOLUMES. */
        void writeHeaps(int r) {
            List<Integer> sizes = new ArrayList<>();
            for (TreeSet<Integer> hole : m.now.holes(m)) {
                int left = m.now.volume(hole);
                while (left > 0) {
                    int size = sizes.size() < 4 && lots.nextBoolean() ? 1 + lots.nextInt(left) : left;
                    sizes.add(size);
                    left -= size;
                }
            }
            if (lots.nextInt(4) == 0) {
                sizes.add(pick(81));
            }
            writeRow(r, sizes.stream().limit(7).mapToInt(v -> v).toArray());
            calls.add("heaps " + r + " " + Arrays.toString(m.rows[r]));
        }

        void writeRow(int r, int[] values) {
            check("row", x.row(r, values.length), m.row(r, values.length));
            for (int i = 0; i < values.length; i++) {
                check("lay", x.lay(r, i, values[i]), m.lay(r, i, values[i]));
            }
        }

        /** So many DEEDS that there are at times 40 of them. */
        void manyDeeds() {
            int n = 30 + lots.nextInt(15);
            for (int deed = 0; deed < n; deed++) {
                int c = pick(m.cells());
                int p = pick(13);
                switch (lots.nextInt(8)) {
                    case 0: say("rain", p, c); check("rain", x.rain(p, c), m.rain(p, c)); break;
                    case 1: case 2: case 3: say("fill", c); check("fill", x.fill(c), m.fill(c)); break;
                    default: say("dig", c); check("dig", x.dig(c), m.dig(c)); break;
                }
            }
        }

        void one(int which) {
            int h = m.now.holes(m).size() + 1;
            int a, b, c, d, e;
            switch (which) {
                case 0: a = pick(6); b = pick(41); say("row", a, b); check("row", x.row(a, b), m.row(a, b)); break;
                case 1: a = pick(6); b = pick(41); c = lots.nextInt(); say("lay", a, b, c); check("lay", x.lay(a, b, c), m.lay(a, b, c)); break;
                case 2: a = pick(6); b = pick(41); say("at", a, b); check("at", x.at(a, b), m.at(a, b)); break;
                case 3: a = pick(6); say("tear", a); check("tear", x.tear(a), m.tear(a)); break;
                case 4: a = pick(6); b = pick(12); c = pick(6); d = pick(12); e = pick(8); say("copy", a, b, c, d, e);
                    check("copy", x.copy(a, b, c, d, e), m.copy(a, b, c, d, e)); break;
                case 5: a = pick(6); say("mean", a); check("mean", x.mean(a), m.mean(a)); break;
                case 6: a = pick(4); b = pick(61); if (lots.nextInt(4) == 0) { say("text", a, b); check("text", x.text(a, b), m.text(a, b)); } break;
                case 7: a = pick(4); b = pick(61); c = lots.nextInt(); if (lots.nextInt(4) == 0) { say("put", a, b, c); check("put", x.put(a, b, c), m.put(a, b, c)); } break;
                case 8: a = pick(4); say("fault", a); check("fault", x.fault(a), m.fault(a)); break;
                case 9: a = pick(4); if (lots.nextInt(8) == 0) { say("ground", a); check("ground", x.ground(a), m.ground(a)); } break;
                case 10: a = pick(m.cells()); b = pick(3); say("cell", a, b); check("cell", x.cell(a, b), m.cell(a, b)); break;
                case 11: a = pick(m.laws.length()); say("law", a); check("law", x.law(a), m.law(a)); break;
                case 12: case 13: a = pick(m.laws.length()); b = pick(6); say("mark", a, b); check("mark", x.mark(a, b), m.mark(a, b)); break;
                case 14: a = pick(h); b = pick(5); say("hole", a, b); check("hole", x.hole(a, b), m.hole(a, b)); break;
                case 15: case 16: case 17: a = pick(m.cells()); say("dig", a); check("dig", x.dig(a), m.dig(a)); break;
                case 18: case 19: a = pick(m.cells()); say("fill", a); check("fill", x.fill(a), m.fill(a)); break;
                case 20: a = pick(13); b = lots.nextInt(30) == 0 ? lots.nextInt() : 1 + lots.nextInt(2147483646); say("rain", a, b);
                    check("rain", x.rain(a, b), m.rain(a, b)); break;
                case 21: a = m.deeds.size() - pick(4); if (lots.nextInt(3) == 0) { say("undo", a); check("undo", x.undo(a), m.undo(a)); } break;
                case 22: case 23: a = pick(3); say("image", a); check("image", x.image(a), m.image(a)); break;
                case 24: a = pick(3); if (lots.nextInt(3) == 0) { say("on", a); check("on", x.on(a), m.on(a)); } break;
                case 25: a = pick(3); b = pick(h); c = pick(5); say("then", a, b, c); check("then", x.then(a, b, c), m.then(a, b, c)); break;
                case 26: a = pick(m.laws.length()); b = pick(3); c = pick(h); d = pick(h); say("same", a, b, c, d);
                    check("same", x.same(a, b, c, d), m.same(a, b, c, d)); break;
                case 27: a = pick(m.laws.length()); b = pick(3); c = pick(h); say("which", a, b, c); check("which", x.which(a, b, c), m.which(a, b, c)); break;
                case 28: a = pick(m.laws.length()); b = pick(3); say("doubt", a, b); check("doubt", x.doubt(a, b), m.doubt(a, b)); break;
                case 29: a = pick(3); say("fair", a); check("fair", x.fair(a), m.fair(a)); break;
                case 30: a = pick(3); say("shovels", a); check("shovels", x.shovels(a), m.shovels(a)); break;
                case 31: a = pick(3); say("suspect", a); check("suspect", x.suspect(a), m.suspect(a)); break;
                case 32: a = pick(h); b = pick(5) - 2; c = pick(5) - 2; say("carry", a, b, c); check("carry", x.carry(a, b, c), m.carry(a, b, c)); break;
                case 33: a = pick(h); b = pick(h); say("join", a, b); check("join", x.join(a, b), m.join(a, b)); break;
                case 34: a = pick(h); say("part", a); check("part", x.part(a), m.part(a)); break;
                case 35: a = pick(m.laws.length()); b = pick(3); c = pick(h); d = pick(4); e = pick(6);
                    if (m.cells() <= 9 || steals < 1) {
                        steals += m.cells() > 9 ? 1 : 0;
                        say("steal", a, b, c, d, e);
                        check("steal", x.steal(a, b, c, d, e), m.steal(a, b, c, d, e));
                    }
                    break;
                case 36: a = pick(h); b = pick(4); say("share", a, b); check("share", x.share(a, b), m.share(a, b)); break;
                case 37: a = pick(6); if (a >= 0 && a < 6) { writeHeaps(a); } say("heaps", a); check("heaps", x.heaps(a), m.heaps(a)); break;
                case 38: a = pick(6); say("heaps", a); check("heaps", x.heaps(a), m.heaps(a)); break;
                case 39: a = pick(6); if (a >= 0 && a < 6) { writeWitnesses(a); } say("lies", a); check("lies", x.lies(a), m.lies(a)); break;
                case 40: a = pick(6); if (a >= 0 && a < 6) { writeWitnesses(a); } say("day", a); check("day", x.day(a), m.day(a)); break;
                case 41: a = pick(6); if (a >= 0 && a < 6) { writeWitnesses(a); } say("grounds", a); check("grounds", x.grounds(a), m.grounds(a)); break;
                case 42: a = pick(6); say("lies ..", a); check("lies", x.lies(a), m.lies(a)); check("day", x.day(a), m.day(a));
                    check("grounds", x.grounds(a), m.grounds(a)); break;
                case 43: a = pick(h); b = pick(13); say("odds", a, b); check("odds", x.odds(a, b), m.odds(a, b)); break;
                case 44: a = pick(m.cells()); b = pick(9); c = pick(13); say("gone", a, b, c); check("gone", x.gone(a, b, c), m.gone(a, b, c)); break;
                default: a = pick(10); say("count", a); check("count", x.count(a), m.count(a)); break;
            }
        }

        void say(String name, int... args) {
            calls.add(name + Arrays.toString(args));
        }
    }
}
