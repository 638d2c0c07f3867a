import java.util.Arrays;

/** The edges that the document names for what is told: promises 40 to 46, and what all calls share. */
public final class EdgesOfToldTest {
    public static void main(String[] args) {
        constants();
        refusedChangesNothing();
        lastCall();
        asked();
        askedOfThoseThatTell();
        askedOfThoseThatDoNot();
        askedOfRefused();
        upperAndLower();
        count();
        countOfKinds();
        finding();
        findings();
        digestOfNew();
        digestOfAll();
        digestOfMissing();
        digestChangesNothing();
        Probe.end("count BAD", "findings BAD");
    }

    private static void constants() {
        Probe.says(1, "BAD -1, FULL -2, FINDING -3, STATE -4, SPENT -6, NONE -9");
        Probe.due("BAD", HoleMoved.BAD, -1);
        Probe.due("FULL", HoleMoved.FULL, -2);
        Probe.due("FINDING", HoleMoved.FINDING, -3);
        Probe.due("STATE", HoleMoved.STATE, -4);
        Probe.due("SPENT", HoleMoved.SPENT, -6);
        Probe.due("NONE", HoleMoved.NONE, -9);
    }

    /** Two objects are told the same, but one of them is refused much besides: behind it they answer alike. */
    private static void refusedChangesNothing() {
        Probe.says(1, "what is refused changes nothing but finding(), findings(), not what can't be seen at once, either");
        Probe refused = Probe.on("1205/0030=0120prsbtd").does("image(0)", "dig(3)", "fill(1)", "rain(7, 9)", "image(2)", "dig(6)");
        Probe other = Probe.on("1205/0030=0120prsbtd").does("image(0)", "dig(3)", "fill(1)", "rain(7, 9)", "image(2)", "dig(6)");
        String[] calls = {
            "row(0, -1)", "row(0, 41)", "lay(0, 0, 9)", "tear(0)", "copy(0, 0, 1, 0, 1)", "mean(0)", "text(0, 61)",
            "text(0, -1)", "put(0, 20, 9)", "put(1, 0, 9)", "ground(1)", "ground(4)", "cell(8, 0)", "law(6)",
            "mark(0, 1)", "hole(9, 0)", "dig(8)", "fill(8)", "fill(4)", "rain(13, 1)", "rain(1, 0)", "undo(5)",
            "undo(-1)", "image(3)", "on(1)", "on(3)", "then(1, 0, 0)", "same(0, 1, 0, 0)", "which(0, 0, 9)",
            "doubt(6, 0)", "fair(1)", "shovels(1)", "suspect(1)", "carry(9, 0, 0)", "join(0, 0)", "part(9)",
            "steal(0, 1, 0, 0, 0)", "steal(0, 0, 0, 4, 0)", "share(0, 4)", "heaps(0)", "lies(0)", "day(0)",
            "grounds(0)", "odds(0, 13)", "gone(0, 9, 0)", "count(10)"};
        for (String call : calls) {
            long answer = refused.call(call);
            Probe.due(call + " is refused", answer < 0 && answer != Probe.NONE ? 1 : 0, 1);
        }
        String[] alike = {"digest()", "undo(3)", "digest()", "undo(2)", "digest()", "undo(1)", "digest()", "undo(0)", "digest()",
            "on(2)", "digest()", "then(0, 0, 0)", "asked()", "then(2, 1, 2)", "asked()", "on(0)", "digest()", "count(7)",
            "which(5, 2, 0)", "fault(0)", "ground(0)", "digest()", "asked()", "upper()", "lower()"};
        for (String call : alike) {
            refused.gives(call, other.call(call));
        }
        other.gives("finding()", 0);
        refused.gives("finding()", Probe.NOTHING);
    }

    private static void lastCall() {
        Probe.says(1, "an object is used for at most 512 calls: the last of them");
        Probe p = Probe.on("12=00");
        p.times(512 - 7 - 2, "dig(0)").gives("cell(0, 0)", 1).gives("asked()", 5);
    }

    private static void asked() {
        Probe.says(40, "0 before");
        new Probe().gives("asked()", 0);
        Probe.on("12=00p").does("dig(0)", "image(0)", "share(0, 0)", "same(0, 0, 0, 0)").gives("asked()", 0);
        Probe.says(40, "the least and the largest int");
        new Probe().lays(0, Integer.MIN_VALUE, Integer.MAX_VALUE).tells("at(0, 0)", Integer.MIN_VALUE)
                .tells("at(0, 1)", Integer.MAX_VALUE);
        Probe.says(40, "it tells again and again");
        new Probe().lays(0, 7).tells("at(0, 0)", 7).gives("asked()", 7).gives("asked()", 7);
    }

    private static void askedOfThoseThatTell() {
        Probe.says(40, "what the latest lay(), at(), mean(), .. told");
        Probe p = Probe.on("120/005=012pb").does("image(0)", "dig(4)").lays(0, 30, 32).lays(1, 0, 0, 0);
        p.tells("lay(0, 0, 40)", 30).tells("at(0, 0)", 40).tells("mean(0)", 36).tells("cell(5, 0)", 5);
        p.tells("hole(0, 2)", 9).tells("then(0, 1, 2)", 5).gives("doubt(1, 0)", 0, 2).gives("shovels(0)", 1, 1);
        p.gives("suspect(0)", 4, 1).gives("part(0)", 1, 16).gives("lies(1)", 1, 0).gives("day(1)", 0, 1);
        Probe.on("101=000").gives("join(0, 1)", 1, 2);
        Probe.says(40, "NONE, as told: cell(), lies()");
        p.tells("cell(2, 2)", Probe.NONE).does("at(0, 1)").lays(1, 0, 1, 0).gives("lies(1)", 0, Probe.NONE);
    }

    private static void askedOfThoseThatDoNot() {
        Probe.says(40, "calls that are not named leave it");
        Probe p = Probe.on("120/005=012pb").lays(0, 30).lays(1, 0, 1, 1).does("image(0)").tells("at(0, 0)", 30);
        String[] calls = {"row(2, 3)", "tear(2)", "copy(0, 0, 0, 0, 1)", "text(1, 3)", "put(1, 0, 5)", "fault(0)", "law(1)",
            "mark(1, 3)", "dig(2)", "fill(2)", "rain(5, 5)", "undo(0)", "image(1)", "on(1)", "same(0, 0, 0, 0)", "which(0, 0, 0)",
            "fair(0)", "carry(0, 0, 1)", "carry(0, 0, 0)", "steal(0, 0, 0, 0, 3)", "share(0, 0)", "heaps(0)", "grounds(1)",
            "odds(0, 5)", "gone(0, 1, 5)", "upper()", "lower()", "count(0)", "finding()", "findings(1)", "digest()", "ground(0)"};
        for (String call : calls) {
            long answer = p.call(call);
            Probe.due(call + " is not refused", answer == Probe.BAD || answer == Probe.FINDING || answer == Probe.STATE ? 1 : 0, 0);
            Probe.due("asked() behind " + call, p.call("asked()"), 30);
        }
    }

    private static void askedOfRefused() {
        Probe.says(40, "that was not refused (nor NONE)");
        Probe p = Probe.on("12=00pb").lays(0, 30).does("image(0)", "row(1, 0)").tells("at(0, 0)", 30);
        p.finds(Probe.BEYOND, "lay(0, 1, 5)", "at(0, 1)").finds(Probe.NOUGHT, "mean(1)").bad("cell(2, 0)", "hole(1, 0)");
        p.finds(Probe.NOTHING, "then(1, 0, 0)", "doubt(0, 1)", "shovels(1)", "suspect(1)", "lies(2)", "day(2)");
        p.none("suspect(0)", "part(0)").bad("join(0, 1)", "part(1)", "lies(6)", "day(6)").finds(Probe.SIZE, "lies(0)", "day(0)");
        p.gives("asked()", 30);
        Probe.on("1000/0000/0000/0001=0000").tells("hole(1, 1)", 1).none("join(0, 1)").gives("asked()", 1);
        Probe.on("10=00").tells("hole(0, 1)", 1).gives("row(0, 0)", 0).none("day(0)").gives("asked()", 1);
    }

    private static void upperAndLower() {
        Probe.says(41, "0 before");
        new Probe().gives("upper()", 0);
        Probe.says(42, "1 before");
        new Probe().gives("lower()", 1);
        Probe.says(41, "the upper number that was told last, above an int, too");
        Probe p = Probe.on("1111/1111/1111/1111=0123").parts("odds(0, 1)", 45949729863572161L, 184884258895036416L);
        p.gives("upper()", 45949729863572161L);
        Probe.says(42, "its lower number; lower() is 1 where it says so; 0 by 1");
        p.lays(0, 0, 0, 1).parts("grounds(0)", 6, 1).parts("odds(0, 1)", 45949729863572161L, 184884258895036416L);
        p.lays(0, 5).parts("heaps(0)", 0, 1).parts("share(0, 0)", 1, 4).parts("gone(0, 0, 0)", 0, 1).parts("share(0, 3)", 1, 4);
        Probe.says(42, "refused calls leave both");
        p.bad("share(1, 0)", "share(0, 4)", "heaps(6)", "grounds(6)", "odds(1, 0)", "odds(0, 13)", "gone(16, 0, 0)", "gone(0, 9, 0)");
        p.finds(Probe.NOTHING, "heaps(1)", "grounds(1)").lays(1, 81).finds(Probe.UNLIKE, "heaps(1)").finds(Probe.SIZE, "grounds(1)");
        p.lays(1, 16, 0, 0).finds(Probe.UNLIKE, "grounds(1)").gives("upper()", 1).gives("lower()", 4);
        Probe.says(41, "calls that tell no fraction leave both");
        p.does("mean(0)", "cell(0, 0)", "hole(0, 2)", "dig(0)", "image(0)", "shovels(0)", "part(0)", "digest()", "ground(0)");
        p.gives("upper()", 1).gives("lower()", 4);
    }

    private static void count() {
        Probe.says(43, "0 .. 9, as few and as many as can be");
        Probe few = new Probe();
        Probe many = Probe.on("1010/0101/1010/0101=0000tsrtsr");
        for (int r = 0; r < 6; r++) {
            many.does("row(" + r + ", 0)");
        }
        many.does("text(1, 0)", "text(2, 0)", "text(3, 60)", "image(0)", "image(1)", "image(2)");
        many.times(5, "dig(0)", "dig(2)", "dig(5)", "dig(7)", "dig(8)", "dig(10)", "dig(13)", "dig(15)");
        many.times(8, "rain(0, 1)");
        int[] due = {16, 4, 8, 32, 40, 6, 6, 6, 4, 3};
        for (int what = 0; what <= 9; what++) {
            few.gives("count(" + what + ")", 0);
            many.gives("count(" + what + ")", due[what]);
        }
        Probe.says(43, "BAD");
        many.bad("count(-1)", "count(10)", "count(LEAST)", "count(MOST)");
    }

    private static void countOfKinds() {
        Probe.says(43, "6 RIM laws (SHAPES, TURNED ones, too)");
        String[] laws = {"p", "r", "s", "b", "t", "d", "", "pbd", "rst", "prsbtd"};
        int[] rims = {0, 1, 1, 0, 1, 0, 0, 0, 3, 3};
        for (int i = 0; i < laws.length; i++) {
            Probe.on("00=00" + laws[i]).gives("count(5)", laws[i].length()).gives("count(6)", rims[i]);
        }
        Probe.says(43, "7 ROWS, 8 TEXTS that are there, empty ones, too");
        new Probe().does("row(0, 0)", "row(0, 5)", "row(5, 0)", "text(0, 0)", "text(0, 1)").gives("count(7)", 2)
                .gives("count(8)", 1).does("tear(0)", "tear(0)").gives("count(7)", 1);
        Probe.says(43, "1 columns, not lines");
        Probe.on("00/00/00=00").gives("count(1)", 2);
    }

    private static void finding() {
        Probe.says(44, "0 before any, behind other refusals, too");
        Probe.on("12=00p").gives("finding()", 0).bad("row(6, 0)", "row(0, 41)").state("fill(0)").gives("finding()", 0);
        Probe.says(44, "the latest FINDING");
        Probe p = Probe.on("12=00p").gives("row(0, 0)", 0).finds(Probe.SIZE, "row(0, -1)").finds(Probe.NOTHING, "at(1, 0)");
        p.finds(Probe.UNLIKE, "mark(0, 1)").finds(Probe.BEYOND, "at(0, 0)").finds(Probe.NOUGHT, "mean(0)");
        Probe.says(44, "it stays behind what is not refused, and refused otherwise");
        p.does("dig(0)", "row(1, 3)", "at(1, 0)").bad("at(6, 0)").gives("text(1, 0)", 0).state("ground(1)");
        p.gives("finding()", Probe.NOUGHT);
    }

    private static void findings() {
        Probe.says(45, "how often a FINDING (1 .. 5) was answered: never");
        Probe p = Probe.on("12=00p").gives("row(0, 0)", 0);
        for (int f = 1; f <= 5; f++) {
            p.gives("findings(" + f + ")", 0);
        }
        Probe.says(45, "how often, each by itself");
        p.times(3, "at(1, 0)").times(4, "at(0, 0)").times(5, "mark(0, 1)").times(6, "mean(0)").times(7, "row(0, -1)");
        for (int f = 1; f <= 5; f++) {
            p.gives("findings(" + f + ")", f + 2);
        }
        Probe.says(45, "BAD, which is no FINDING");
        p.bad("findings(0)", "findings(6)", "findings(-1)", "findings(LEAST)", "findings(MOST)").gives("finding()", Probe.SIZE);
        Probe.says(45, "hundreds of them");
        new Probe().times(500, "at(0, 0)").gives("findings(1)", 500).gives("findings(2)", 0).gives("finding()", 1);
    }

    private static long hashed(int... values) {
        long h = 17;
        for (int v : values) {
            h = 31 * h + v;
        }
        return h;
    }

    private static void digestOfNew() {
        Probe.says(46, "of a new object: ten counts 0, then -1 for each IMAGE, ROW, TEXT");
        int[] values = new int[10 + 3 + 6 + 4];
        Arrays.fill(values, 10, values.length, -1);
        new Probe().digestIs(hashed(values));
    }

    private static void digestOfAll() {
        Probe.says(46, "count() 0 to 9; CELLS; LAWS; IMAGES; ROWS; TEXTS");
        Probe p = Probe.on("05/00=31dp").does("dig(2)", "dig(2)", "image(1)", "fill(2)").lays(5, Integer.MIN_VALUE, 0, 7);
        p.gives("row(1, 0)", 0).gives("text(3, 2)", 2).gives("put(3, 1, 128)", 1032).gives("text(2, 0)", 0).tells("at(5, 2)", 7);
        p.digestIs(hashed(4, 2, 2, 1, 3, 2, 0, 2, 3, 1,
                0, 3, -9, 5, 1, 0, 1, 3, 1, 0, 1, -9,
                5, 0,
                -1, 0, 5, 2, 0, 2, -1,
                -1, 0, -1, -1, -1, 3, Integer.MIN_VALUE, 0, 7,
                10, '0', '5', '/', '0', '0', '=', '3', '1', 'd', 'p', -1, 0, 2, 32, -128));
        Probe.says(46, "asked() stays");
        p.gives("asked()", 7);
    }

    private static void digestOfMissing() {
        Probe.says(46, "a ROW that is empty is not one that is missing");
        int[] values = new int[10 + 3 + 6 + 4];
        Arrays.fill(values, 10, values.length, -1);
        values[7] = 1;
        values[13] = 0;
        new Probe().does("row(0, 0)").digestIs(hashed(values)).does("tear(0)").digestIs(new Probe().digest());
        Probe.says(46, "a TEXT that is empty is not one that is missing");
        values[7] = 0;
        values[13] = -1;
        values[8] = 1;
        values[22] = 0;
        new Probe().does("text(3, 0)").digestIs(hashed(values));
        Probe.says(46, "what a ROW, a TEXT had behind its end does not matter");
        Probe short1 = new Probe().does("row(0, 2)", "text(0, 2)");
        new Probe().lays(0, 4, 5, 6).write(0, "abc").does("row(0, 2)", "text(0, 2)").digestIs(short1.digest());
        Probe.says(46, "an IMAGE's EARTH, its DEPTHS as they were");
        Probe p = Probe.on("10=00").does("image(0)");
        long before = p.digest();
        p.does("dig(1)", "fill(1)", "image(0)", "undo(0)").digestIs(before).does("dig(1)", "image(0)", "undo(0)");
        p.digestIs(hashed(2, 2, 1, 0, 0, 0, 0, 0, 1, 1, 1, 0, 0, 0, 0, -9, 1, 1, 1, -1, -1, -1, -1, -1, -1, -1, -1,
                5, '1', '0', '=', '0', '0', -1, -1, -1));
    }

    private static void digestChangesNothing() {
        Probe.says(46, "digest() again is the same, and a long that wraps around");
        Probe p = Probe.on("5555/5555/5555/5555=3333tttttt").does("image(0)", "image(1)", "image(2)");
        for (int r = 0; r < 6; r++) {
            p.does("row(" + r + ", 40)", "lay(" + r + ", 39, MOST)");
        }
        long first = p.digest();
        p.digestIs(first).digestIs(first).gives("asked()", 0).gives("finding()", 0).gives("count(2)", 1);
        Probe.says(46, "the same calls give the same digest");
        Probe q = Probe.on("5555/5555/5555/5555=3333tttttt").does("image(0)", "image(1)", "image(2)");
        for (int r = 5; r >= 0; r--) {
            q.does("row(" + r + ", 40)", "lay(" + r + ", 39, MOST)");
        }
        q.digestIs(first);
    }
}
