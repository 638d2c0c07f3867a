/** The edges that the document names for a new object, ROWS and TEXTS: promises 1 to 9. */
public final class EdgesOfRowsTest {
    private static final int MOST = Integer.MAX_VALUE, LEAST = Integer.MIN_VALUE;

    public static void main(String[] args) {
        newObject();
        row();
        lay();
        at();
        tear();
        copyWithin();
        copyOfNone();
        copyRefused();
        mean();
        text();
        put();
        Probe.end("row BAD SIZE", "lay BAD NOTHING BEYOND", "at BAD NOTHING BEYOND", "tear BAD NOTHING",
                "copy BAD SIZE NOTHING BEYOND", "mean BAD NOTHING NOUGHT", "text BAD SIZE", "put BAD NOTHING BEYOND");
    }

    private static void newObject() {
        Probe.says(1, "No ROWS");
        Probe p = new Probe();
        for (int r = 0; r <= 5; r++) {
            p.finds(Probe.NOTHING, "at(" + r + ", 0)");
        }
        p.gives("count(7)", 0);
        Probe.says(1, "No TEXTS");
        p = new Probe();
        for (int t = 0; t <= 3; t++) {
            p.finds(Probe.NOTHING, "put(" + t + ", 0, 0)", "fault(" + t + ")", "ground(" + t + ")");
        }
        p.gives("count(8)", 0);
        Probe.says(1, "No CELLS");
        p = new Probe().bad("cell(0, 0)", "hole(0, 0)", "dig(0)", "fill(0)", "gone(0, 0, 0)", "odds(0, 0)");
        p.bad("carry(0, 0, 0)", "join(0, 1)", "part(0)", "share(0, 0)");
        p.state("rain(0, 1)", "image(0)", "image(2)");
        p.gives("count(0)", 0).gives("count(1)", 0).gives("count(2)", 0).gives("count(3)", 0).gives("count(4)", 0);
        p.gives("undo(0)", 0).bad("undo(1)");
        Probe.says(1, "No LAWS");
        p = new Probe().bad("law(0)", "mark(0, 1)", "same(0, 0, 0, 0)", "which(0, 0, 0)", "doubt(0, 0)");
        p.bad("steal(0, 0, 0, 0, 0)").gives("count(5)", 0).gives("count(6)", 0);
        Probe.says(1, "No IMAGES");
        p = new Probe();
        for (int k = 0; k <= 2; k++) {
            p.finds(Probe.NOTHING, "on(" + k + ")", "then(" + k + ", 0, 0)", "fair(" + k + ")");
            p.finds(Probe.NOTHING, "shovels(" + k + ")", "suspect(" + k + ")");
        }
        p.gives("count(9)", 0);
        Probe.says(1, "a new object does not know what another one was told");
        Probe other = Probe.on("12=01p").lays(0, 7).does("image(0)", "dig(0)", "share(0, 0)", "at(0, 0)", "at(1, 0)");
        p = new Probe();
        for (int what = 0; what <= 9; what++) {
            p.gives("count(" + what + ")", 0);
        }
        p.gives("asked()", 0).gives("upper()", 0).gives("lower()", 1).gives("finding()", 0).gives("findings(1)", 0);
        other.gives("count(7)", 1).gives("count(9)", 1).gives("count(4)", 1);
    }

    private static void row() {
        Probe.says(2, "ROWS 0 .. 5");
        new Probe().gives("row(0, 1)", 1).gives("row(5, 1)", 1).gives("count(7)", 2)
                .bad("row(-1, 1)", "row(6, 1)", "row(LEAST, 1)", "row(MOST, 1)").gives("count(7)", 2);
        Probe.says(2, "rows of 0 to 40 ints; BAD: also n above 40");
        new Probe().gives("row(0, 0)", 0).rowIs(0).gives("row(0, 40)", 40).tells("at(0, 39)", 0)
                .finds(Probe.BEYOND, "at(0, 40)")
                .bad("row(0, 41)", "row(0, 42)", "row(0, MOST)", "row(1, 41)").gives("count(7)", 1)
                .tells("at(0, 39)", 0).finds(Probe.NOTHING, "at(1, 0)");
        Probe.says(2, "SIZE: below 0");
        new Probe().gives("row(0, 1)", 1).finds(Probe.SIZE, "row(0, -1)", "row(0, -2)", "row(0, LEAST)", "row(1, -1)")
                .rowIs(0, 0).finds(Probe.NOTHING, "at(1, 0)").gives("row(1, 0)", 0).rowIs(1);
        Probe.says(2, "BAD ahead of SIZE");
        new Probe().bad("row(6, -1)", "row(-1, -1)", "row(MOST, LEAST)", "row(LEAST, LEAST)", "row(-1, 41)");
        Probe.says(2, "with n ints 0, whatever was there");
        new Probe().lays(0, 1, 2, 3).gives("row(0, 3)", 3).rowIs(0, 0, 0, 0)
                .lays(0, 4, 5, 6).gives("row(0, 1)", 1).rowIs(0, 0).gives("row(0, 3)", 3).rowIs(0, 0, 0, 0);
    }

    private static void lay() {
        Probe.says(3, "place i of a ROW is v: what it was, told by asked(): 1");
        Probe p = new Probe().gives("row(0, 40)", 40).gives("row(1, 0)", 0);
        p.tells("lay(0, 0, MOST)", 0).tells("lay(0, 39, LEAST)", 0);
        p.tells("lay(0, 0, LEAST)", MOST).tells("lay(0, 39, MOST)", LEAST).tells("lay(0, 0, 0)", LEAST);
        p.tells("at(0, 39)", MOST).tells("at(0, 1)", 0).tells("at(0, 38)", 0);
        Probe.says(3, "BEYOND: ahead of the first place, behind the last one");
        p.finds(Probe.BEYOND, "lay(0, -1, 9)", "lay(0, 40, 9)", "lay(0, LEAST, 9)", "lay(0, MOST, 9)");
        Probe.says(3, "BEYOND: an empty ROW has no place");
        p.finds(Probe.BEYOND, "lay(1, 0, 9)", "lay(1, -1, 9)");
        Probe.says(3, "NOTHING, ahead of BEYOND");
        p.finds(Probe.NOTHING, "lay(2, 0, 9)", "lay(2, -1, 9)", "lay(5, MOST, 9)");
        Probe.says(3, "BAD, ahead of both");
        p.bad("lay(-1, 0, 9)", "lay(6, 0, 9)", "lay(6, -1, 9)", "lay(LEAST, 99, 9)", "lay(MOST, 0, 9)");
        Probe.says(3, "BEYOND: a place that there was, when the ROW was longer");
        new Probe().lays(4, 1, 2, 3).gives("row(4, 2)", 2).tells("lay(4, 1, 8)", 0)
                .finds(Probe.BEYOND, "lay(4, 2, 9)").gives("row(4, 3)", 3).rowIs(4, 0, 0, 0);
    }

    private static void at() {
        Probe.says(4, "place i of a ROW, told by asked(): 1");
        Probe p = new Probe().gives("row(5, 40)", 40).gives("row(1, 0)", 0);
        p.does("lay(5, 0, -7)", "lay(5, 39, 8)").tells("at(5, 0)", -7).tells("at(5, 39)", 8);
        Probe.says(4, "BEYOND");
        p.finds(Probe.BEYOND, "at(5, -1)", "at(5, 40)", "at(5, LEAST)", "at(5, MOST)", "at(1, 0)", "at(1, -1)");
        Probe.says(4, "NOTHING, ahead of BEYOND");
        p.finds(Probe.NOTHING, "at(0, 0)", "at(0, -1)", "at(0, MOST)");
        Probe.says(4, "BAD, ahead of both");
        p.bad("at(-1, 0)", "at(6, 0)", "at(LEAST, -1)", "at(MOST, 40)");
        p.gives("asked()", 8);
    }

    private static void tear() {
        Probe.says(5, "a ROW is missing: 1");
        Probe p = new Probe().lays(0, 3, 4).gives("row(5, 40)", 40).gives("row(2, 0)", 0).gives("count(7)", 3);
        p.gives("tear(0)", 1).gives("count(7)", 2).finds(Probe.NOTHING, "at(0, 0)", "lay(0, 0, 1)", "mean(0)");
        Probe.says(5, "an empty ROW, a full one are there, too");
        p.gives("tear(2)", 1).gives("tear(5)", 1).gives("count(7)", 0);
        Probe.says(5, "NOTHING");
        p.finds(Probe.NOTHING, "tear(0)", "tear(1)", "tear(2)", "tear(5)");
        Probe.says(5, "BAD");
        p.bad("tear(-1)", "tear(6)", "tear(LEAST)", "tear(MOST)");
        Probe.says(5, "what a torn ROW had does not come again");
        p.gives("row(0, 2)", 2).rowIs(0, 0, 0);
    }

    private static void copyWithin() {
        Probe.says(6, "n places from one on come to those of another one from one on");
        Probe p = new Probe().lays(0, 1, 2, 3, 4, 5).lays(1, 9, 9, 9);
        p.gives("copy(0, 2, 1, 0, 3)", 1).rowIs(1, 3, 4, 5).rowIs(0, 1, 2, 3, 4, 5);
        p.gives("copy(0, 0, 1, 2, 1)", 1).rowIs(1, 3, 4, 1);
        Probe.says(6, "perhaps itself, as if taken ahead");
        p.gives("copy(0, 0, 0, 1, 4)", 1).rowIs(0, 1, 1, 2, 3, 4);
        p.gives("copy(0, 1, 0, 0, 4)", 1).rowIs(0, 1, 2, 3, 4, 4);
        p.gives("copy(0, 0, 0, 0, 5)", 1).rowIs(0, 1, 2, 3, 4, 4);
        Probe.says(6, "a full ROW: 40 places, not one more");
        p = new Probe().gives("row(0, 40)", 40).gives("row(5, 40)", 40).does("lay(0, 0, 7)", "lay(0, 39, 8)");
        p.finds(Probe.BEYOND, "copy(0, 0, 5, 0, 41)", "copy(0, 1, 5, 0, 40)", "copy(0, 0, 5, 1, 40)");
        p.gives("copy(0, 0, 5, 0, 40)", 1).tells("at(5, 0)", 7).tells("at(5, 39)", 8);
        p.gives("copy(0, 39, 5, 0, 1)", 1).tells("at(5, 0)", 8).tells("at(5, 1)", 0);
        Probe.says(6, "BEYOND: a sum that would wrap around");
        p.finds(Probe.BEYOND, "copy(0, 0, 5, 0, MOST)", "copy(0, 1, 5, 0, MOST)", "copy(0, 0, 5, 1, MOST)");
        p.finds(Probe.BEYOND, "copy(0, MOST, 5, 0, 1)", "copy(0, 0, 5, MOST, 1)", "copy(0, MOST, 5, MOST, MOST)");
        p.finds(Probe.BEYOND, "copy(0, LEAST, 5, 0, 1)", "copy(0, 0, 5, LEAST, 1)", "copy(0, LEAST, 5, LEAST, MOST)");
        Probe.says(6, "BEYOND: ahead of the first place");
        p.finds(Probe.BEYOND, "copy(0, -1, 5, 0, 1)", "copy(0, 0, 5, -1, 1)", "copy(0, -1, 5, -1, 2)");
    }

    private static void copyOfNone() {
        Probe.says(6, "with n 0, too, if i or j is below 0 or above the size");
        Probe p = new Probe().lays(0, 1, 2).gives("row(1, 0)", 0).gives("row(2, 40)", 40);
        p.gives("copy(0, 0, 2, 0, 0)", 1).gives("copy(0, 2, 2, 40, 0)", 1).gives("copy(2, 40, 0, 2, 0)", 1);
        p.finds(Probe.BEYOND, "copy(0, 3, 2, 0, 0)", "copy(0, -1, 2, 0, 0)", "copy(0, 0, 2, 41, 0)");
        p.finds(Probe.BEYOND, "copy(0, 0, 2, -1, 0)", "copy(0, MOST, 2, 0, 0)", "copy(0, 0, 2, LEAST, 0)");
        p.rowIs(0, 1, 2);
        Probe.says(6, "with n 0 in an empty ROW");
        p.gives("copy(1, 0, 1, 0, 0)", 1).gives("copy(1, 0, 0, 2, 0)", 1).gives("copy(0, 2, 1, 0, 0)", 1);
        p.finds(Probe.BEYOND, "copy(1, 1, 1, 0, 0)", "copy(1, 0, 1, 1, 0)", "copy(1, 0, 1, 0, 1)");
    }

    private static void copyRefused() {
        Probe.says(6, "BAD, ahead of all");
        Probe p = new Probe().lays(0, 1, 2).lays(1, 3);
        p.bad("copy(-1, 0, 0, 0, 0)", "copy(6, 0, 0, 0, 0)", "copy(0, 0, -1, 0, 0)", "copy(0, 0, 6, 0, 0)");
        p.bad("copy(LEAST, 0, 0, 0, -1)", "copy(MOST, 9, 5, 9, 9)", "copy(5, 9, LEAST, 9, 9)", "copy(0, 0, MOST, 0, -1)");
        Probe.says(6, "SIZE: n below 0, ahead of NOTHING, BEYOND");
        p.finds(Probe.SIZE, "copy(0, 0, 1, 0, -1)", "copy(0, 0, 1, 0, LEAST)", "copy(5, 0, 0, 0, -1)");
        p.finds(Probe.SIZE, "copy(0, 0, 5, 0, -1)", "copy(0, 9, 0, -9, -1)", "copy(5, 9, 5, 9, LEAST)");
        Probe.says(6, "NOTHING: either, ahead of BEYOND");
        p.finds(Probe.NOTHING, "copy(5, 0, 0, 0, 1)", "copy(0, 0, 5, 0, 1)", "copy(5, 0, 4, 0, 0)");
        p.finds(Probe.NOTHING, "copy(5, -1, 0, 0, 1)", "copy(0, 9, 5, 0, MOST)", "copy(5, 0, 5, 0, 0)");
        p.rowIs(0, 1, 2).rowIs(1, 3).gives("count(7)", 2);
    }

    private static int[] alike(int n, int v) {
        int[] values = new int[n];
        java.util.Arrays.fill(values, v);
        return values;
    }

    private static void mean() {
        Probe.says(7, "the mean, cut");
        new Probe().lays(0, 7).tells("mean(0)", 7).lays(0, 1, 2).tells("mean(0)", 1).lays(0, 1, 0).tells("mean(0)", 0)
                .lays(0, 2, 3, 3).tells("mean(0)", 2);
        Probe.says(7, "the mean below 0, cut");
        new Probe().lays(0, -1, 0).tells("mean(0)", 0).lays(0, -1, -2).tells("mean(0)", -1)
                .lays(0, -2, -3, -3).tells("mean(0)", -2);
        Probe.says(7, "a sum that would wrap around");
        new Probe().lays(0, MOST, MOST).tells("mean(0)", MOST).lays(0, LEAST, LEAST).tells("mean(0)", LEAST)
                .lays(0, MOST, LEAST).tells("mean(0)", 0).lays(0, MOST, 1).tells("mean(0)", 1 << 30)
                .lays(0, LEAST, -1).tells("mean(0)", -(1 << 30)).lays(0, LEAST).tells("mean(0)", LEAST);
        new Probe().lays(1, alike(40, MOST)).tells("mean(1)", MOST).lays(1, alike(40, LEAST)).tells("mean(1)", LEAST);
        Probe.says(7, "NOUGHT: shared among none");
        Probe p = new Probe().lays(0, 5).tells("mean(0)", 5).gives("row(1, 0)", 0);
        p.finds(Probe.NOUGHT, "mean(1)");
        Probe.says(7, "NOTHING");
        p.finds(Probe.NOTHING, "mean(2)", "mean(5)");
        Probe.says(7, "BAD");
        p.bad("mean(-1)", "mean(6)", "mean(LEAST)", "mean(MOST)").gives("asked()", 5);
    }

    private static void text() {
        Probe.says(8, "TEXTS 0 .. 3");
        new Probe().gives("text(0, 1)", 1).gives("text(3, 1)", 1).gives("count(8)", 2)
                .bad("text(-1, 1)", "text(4, 1)", "text(LEAST, 1)", "text(MOST, 1)").gives("count(8)", 2);
        Probe.says(8, "rows of 0 to 60 bytes; BAD: also n above 60");
        new Probe().gives("text(0, 0)", 0).finds(Probe.BEYOND, "put(0, 0, 1)").gives("text(0, 60)", 60)
                .gives("put(0, 59, 1)", 1032).finds(Probe.BEYOND, "put(0, 60, 1)")
                .bad("text(0, 61)", "text(0, 62)", "text(0, MOST)", "text(1, 61)").gives("put(0, 59, 1)", 1001);
        Probe.says(8, "SIZE: below 0");
        new Probe().gives("text(0, 1)", 1).finds(Probe.SIZE, "text(0, -1)", "text(0, LEAST)", "text(1, -1)")
                .gives("put(0, 0, 1)", 1032).finds(Probe.NOTHING, "put(1, 0, 1)");
        Probe.says(8, "BAD ahead of SIZE");
        new Probe().bad("text(4, -1)", "text(-1, -1)", "text(MOST, LEAST)", "text(LEAST, LEAST)", "text(4, 61)");
        Probe.says(8, "with n blanks, whatever was there");
        new Probe().write(2, "abc").gives("text(2, 2)", 2).gives("put(2, 0, 65)", 1032).gives("put(2, 1, 66)", 1032)
                .gives("text(2, 3)", 3).gives("put(2, 0, 65)", 1032).gives("put(2, 2, 67)", 1032);
    }

    private static void put() {
        Probe.says(9, "cut to a byte (-128 .. 127): what it was, and 1000 more");
        int[][] cuts = {{127, 127}, {128, -128}, {-128, -128}, {-129, 127}, {255, -1}, {256, 0}, {-1, -1}, {-256, 0},
            {MOST, -1}, {LEAST, 0}, {0x12345680, -128}, {0, 0}, {32, 32}};
        Probe p = new Probe().gives("text(0, 60)", 60).gives("text(1, 0)", 0);
        for (int[] cut : cuts) {
            p.does("put(0, 59, " + cut[0] + ")").gives("put(0, 59, 5)", 1000 + cut[1]);
        }
        p.gives("put(0, 0, 1)", 1032).gives("put(0, 0, 2)", 1001).gives("put(0, 1, 2)", 1032);
        Probe.says(9, "BEYOND");
        p.finds(Probe.BEYOND, "put(0, -1, 1)", "put(0, 60, 1)", "put(0, LEAST, 1)", "put(0, MOST, 1)");
        Probe.says(9, "BEYOND: an empty TEXT has no place");
        p.finds(Probe.BEYOND, "put(1, 0, 1)", "put(1, -1, 1)");
        Probe.says(9, "NOTHING, ahead of BEYOND");
        p.finds(Probe.NOTHING, "put(2, 0, 1)", "put(3, -1, 1)", "put(3, MOST, 1)");
        Probe.says(9, "BAD, ahead of both");
        p.bad("put(-1, 0, 1)", "put(4, 0, 1)", "put(4, -1, 1)", "put(LEAST, 99, 1)", "put(MOST, 0, 1)");
        Probe.says(9, "put() does not tell by asked()");
        p.gives("asked()", 0);
    }
}
