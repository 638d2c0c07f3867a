/** The edges that the document names for DEEDS and IMAGES: promises 16 to 22. */
public final class EdgesOfDeedsTest {
    public static void main(String[] args) {
        dig();
        digWhenFull();
        fill();
        fillWhenFull();
        rain();
        rainByLots();
        rainRefused();
        undo();
        undoOfAll();
        image();
        on();
        then();
        thenRefused();
        Probe.end("dig BAD STATE FULL", "fill BAD STATE FULL", "rain BAD STATE FULL", "undo BAD", "image BAD STATE",
                "on BAD NOTHING", "then BAD NOTHING");
    }

    /** A GROUND of four CELLS, 5, 2, 1, 0 deep, with 40 DEEDS and 7 EARTH in the CART. */
    private static Probe fullOfDeeds() {
        return Probe.on("00/10=01pr").times(5, "dig(0)").times(15, "dig(1)", "fill(1)").does("dig(1)", "dig(1)", "dig(3)")
                .does("rain(0, 1)", "fill(3)");
    }

    private static void dig() {
        Probe.says(16, "1 deeper: its DEPTH then; the CART has 1 more EARTH");
        Probe p = Probe.on("00/40=00");
        for (int depth = 1; depth <= 5; depth++) {
            p.gives("dig(0)", depth).gives("count(3)", depth).gives("count(4)", depth).tells("cell(0, 0)", depth);
        }
        Probe.says(16, "STATE: it is 5");
        p.state("dig(0)").gives("dig(2)", 5).state("dig(2)").gives("count(3)", 6).gives("count(4)", 6);
        Probe.says(16, "the last CELL, the first one");
        p.gives("dig(3)", 1).gives("dig(1)", 1).tells("hole(0, 0)", 15);
        Probe.says(16, "BAD, ahead of STATE");
        p.bad("dig(-1)", "dig(4)", "dig(16)", "dig(32)", "dig(LEAST)", "dig(MOST)");
        Probe.says(16, "BAD: no CELLS");
        new Probe().bad("dig(0)", "dig(-1)");
        Probe.says(16, "a CELL of 16");
        Probe.on("0000/0000/0000/0000=0000").gives("dig(15)", 1).gives("dig(0)", 1).bad("dig(16)").gives("count(2)", 2);
    }

    private static void digWhenFull() {
        Probe.says(16, "FULL: 40 DEEDS");
        Probe p = Probe.on("00/00=00");
        long first = p.digest();
        p.times(19, "dig(1)", "fill(1)").does("dig(1)").gives("count(4)", 39).gives("dig(0)", 1).gives("count(4)", 40);
        p.full("dig(0)", "dig(3)", "dig(1)");
        Probe.says(16, "FULL last: behind STATE, BAD");
        fullOfDeeds().gives("count(4)", 40).full("dig(1)", "dig(3)").state("dig(0)").bad("dig(-1)", "dig(4)");
        Probe.says(16, "what is refused is no DEED, and takes the place of none");
        p.gives("undo(0)", 40).digestIs(first);
        Probe.says(16, "the CART as full as can be: 40 EARTH");
        p = Probe.on("0000/0000=0000");
        for (int c = 0; c < 8; c++) {
            p.times(5, "dig(" + c + ")");
        }
        p.gives("count(3)", 40).gives("count(4)", 40).state("dig(7)").full("fill(7)").does("image(0)").gives("on(0)", 1);
        p.gives("count(3)", 40).gives("fill(7)", 4).gives("count(3)", 39);
    }

    private static void fill() {
        Probe.says(17, "1 less deep, of the CART's EARTH: its DEPTH then");
        Probe p = Probe.on("50/30=00").does("dig(1)", "dig(1)", "dig(1)");
        p.gives("fill(0)", 4).gives("count(3)", 2).gives("count(4)", 4).gives("fill(1)", 2).gives("fill(1)", 1);
        Probe.says(17, "STATE: the CART is empty");
        p.gives("count(3)", 0).state("fill(0)", "fill(1)", "fill(2)");
        Probe.says(17, "STATE: it is 0");
        p.does("dig(0)").state("fill(3)").gives("fill(1)", 0).state("fill(1)");
        Probe.says(17, "STATE: it is 0, and the CART is empty");
        p.gives("count(3)", 0).state("fill(1)", "fill(3)");
        Probe.says(17, "STATE: the CART is empty at first, and behind a rain");
        Probe.on("55=00").state("fill(0)").does("rain(12, 1)").gives("count(3)", 0).state("fill(0)");
        Probe.says(17, "BAD, ahead of STATE");
        p.bad("fill(-1)", "fill(4)", "fill(16)", "fill(LEAST)", "fill(MOST)");
        new Probe().bad("fill(0)");
        Probe.says(17, "EARTH of one CELL fills another one; a HOLE goes");
        Probe.on("10/00=00").gives("count(2)", 1).gives("dig(3)", 1).gives("count(2)", 2).gives("fill(0)", 0)
                .gives("count(2)", 1).tells("hole(0, 0)", 8).tells("cell(0, 2)", Probe.NONE);
    }

    private static void fillWhenFull() {
        Probe.says(17, "FULL");
        Probe p = fullOfDeeds().gives("count(4)", 40).gives("count(3)", 7);
        p.full("fill(0)", "fill(2)", "fill(1)");
        Probe.says(17, "FULL last: behind STATE (it is 0), BAD");
        p.state("fill(3)").bad("fill(4)", "fill(-1)");
        Probe.says(17, "FULL last: behind STATE (the CART is empty)");
        Probe.on("10=00").times(20, "dig(1)", "fill(1)").gives("count(4)", 40).state("fill(0)", "fill(1)").full("dig(1)");
        Probe.says(17, "the fortieth DEED");
        Probe.on("10=00").times(19, "dig(1)", "fill(1)").does("dig(1)").gives("fill(1)", 0).gives("count(4)", 40);
    }

    private static void rain() {
        Probe.says(18, "p 0: none is less deep; it is a DEED");
        Probe p = Probe.on("1200/0005=0000").gives("rain(0, 1)", 2).gives("count(4)", 1).tells("cell(0, 0)", 1);
        Probe.says(18, "p 12: each is 1 less deep, by no more, and none below 0; no EARTH");
        p.gives("rain(12, 1)", 2).tells("cell(0, 0)", 0).tells("cell(1, 0)", 1).tells("cell(7, 0)", 4).tells("cell(2, 0)", 0);
        p.gives("rain(12, 2147483646)", 1).tells("cell(0, 0)", 0).tells("cell(1, 0)", 0).tells("cell(7, 0)", 3);
        p.gives("count(3)", 0).gives("count(4)", 3);
        Probe.says(18, "how many HOLES there are then: none, more than before");
        Probe.on("11/11=00").gives("rain(12, 5)", 0).gives("rain(12, 5)", 0).gives("count(4)", 2);
        Probe.on("212=000").gives("count(2)", 1).gives("rain(12, 3)", 2);
        Probe.says(18, "the CART stays as it is");
        Probe.on("11=00").does("dig(0)", "dig(1)").gives("rain(12, 9)", 1).gives("count(3)", 2);
    }

    private static void rainByLots() {
        // The LOTS of seed 1: 48271, 182605794, 1291394886, 1914720637: modulo 12 they are 7, 6, 6, 1.
        Probe.says(18, "if it modulo 12 is below p");
        Probe.on("10=00").gives("rain(7, 1)", 1).gives("rain(8, 1)", 0);
        Probe.on("11=00").gives("rain(6, 1)", 1).tells("hole(0, 0)", 3).gives("rain(7, 1)", 1).tells("hole(0, 0)", 1);
        Probe.on("1111=0000").gives("rain(1, 1)", 1).tells("hole(0, 0)", 15).gives("rain(2, 1)", 1).tells("hole(0, 0)", 7);
        Probe.says(18, "for each CELL with DEPTH above 0 a number, for none besides");
        Probe.on("0001/1010=0000").gives("rain(7, 1)", 1).tells("hole(0, 0)", 8);
        Probe.on("0001/1011=0000").gives("rain(2, 1)", 3).tells("cell(7, 0)", 0);
        Probe.says(18, "the greatest seed: its first number is 2147435376, modulo 12 it is 0");
        Probe.on("10=00").gives("rain(0, 2147483646)", 1).gives("rain(1, 2147483646)", 0);
        // 48271 times 44488 is 2147480248; times 44489 it is above an int, and 44872 modulo 2147483647.
        Probe.says(18, "48271 times it modulo 2147483647: the last seed that stays below it, the first that does not");
        Probe.on("10=00").gives("rain(4, 44488)", 1).gives("rain(5, 44488)", 0);
        Probe.on("10=00").gives("rain(4, 44489)", 1).gives("rain(5, 44489)", 0);
        Probe.says(18, "the same seed gives the same rain, whatever was drawn before");
        Probe.on("22=00").does("rain(3, 77)", "rain(0, 5)").gives("rain(6, 1)", 1).tells("hole(0, 2)", 4 - rained(77));
    }

    /** How many of two CELLS a rain by 3 of a seed has made less deep. */
    private static int rained(long seed) {
        int n = 0;
        long lot = seed;
        for (int c = 0; c < 2; c++) {
            lot = lot * 48271 % 2147483647;
            n += lot % 12 < 3 ? 1 : 0;
        }
        return n;
    }

    private static void rainRefused() {
        Probe.says(18, "BAD: p 0 .. 12");
        Probe p = Probe.on("11=00").bad("rain(-1, 1)", "rain(13, 1)", "rain(LEAST, 1)", "rain(MOST, 1)");
        Probe.says(18, "BAD: a seed 1 .. 2147483646");
        p.bad("rain(1, 0)", "rain(1, -1)", "rain(1, MOST)", "rain(1, LEAST)").gives("rain(0, 1)", 1);
        Probe.says(18, "STATE: no CELLS, behind BAD");
        new Probe().state("rain(0, 1)", "rain(12, 2147483646)").bad("rain(13, 1)", "rain(0, 0)", "rain(-1, MOST)");
        Probe.says(18, "FULL, the last, behind BAD");
        p = fullOfDeeds().full("rain(0, 1)", "rain(12, 1)").bad("rain(13, 1)", "rain(-1, 1)", "rain(0, 0)", "rain(0, MOST)");
        Probe.says(18, "no CELL with DEPTH above 0 is no STATE");
        Probe.on("00=00").gives("rain(12, 1)", 0).gives("count(4)", 1);
        Probe.says(18, "the fortieth DEED");
        Probe.on("20=00").times(39, "rain(0, 3)").gives("rain(12, 3)", 1).full("rain(0, 3)").gives("undo(39)", 1)
                .tells("cell(0, 0)", 2);
    }

    private static void undo() {
        Probe.says(19, "0 to how many there are: none then");
        Probe p = Probe.on("20/01=00");
        long first = p.digest();
        p.gives("undo(0)", 0).bad("undo(1)");
        p.does("dig(0)");
        long second = p.digest();
        p.does("dig(1)", "fill(0)", "rain(12, 1)").gives("undo(4)", 0).gives("count(4)", 4);
        Probe.says(19, "BAD");
        p.bad("undo(5)", "undo(-1)", "undo(LEAST)", "undo(MOST)", "undo(41)");
        Probe.says(19, "DEEDS from number n on are undone: how many");
        p.gives("undo(3)", 1).gives("count(4)", 3).gives("undo(1)", 2).digestIs(second).gives("undo(0)", 1).digestIs(first);
        p.bad("undo(1)");
        Probe.says(19, "a rain undone: CELLS that came to be 0 are as they were, those that were 0 stay so");
        p = Probe.on("1205=0000");
        first = p.digest();
        p.does("rain(12, 4)", "rain(12, 4)", "rain(12, 4)").gives("count(2)", 1).gives("undo(0)", 3).digestIs(first);
        Probe.says(19, "EARTH goes back, and comes back");
        Probe.on("10=00").does("dig(0)", "dig(1)", "fill(0)", "fill(0)").gives("count(3)", 0).gives("undo(3)", 1)
                .gives("count(3)", 1).gives("undo(2)", 1).gives("count(3)", 2).gives("undo(1)", 1).gives("count(3)", 1)
                .gives("undo(0)", 1).gives("count(3)", 0).state("fill(0)");
        Probe.says(19, "without CELLS there are no DEEDS");
        new Probe().gives("undo(0)", 0).bad("undo(1)", "undo(-1)");
    }

    private static void undoOfAll() {
        Probe.says(19, "all 40 DEEDS, and 40 again");
        Probe p = Probe.on("30/02=00");
        long first = p.digest();
        p.times(13, "dig(1)", "fill(0)", "rain(5, 1234567)").does("dig(3)").times(12, "dig(2)", "fill(2)");
        long many = p.call("count(4)");
        p.gives("undo(0)", many).digestIs(first).gives("count(4)", 0);
        p.times(40, "rain(0, 9)").full("rain(0, 9)", "dig(0)").gives("undo(40)", 0).bad("undo(41)").gives("undo(39)", 1);
        p.gives("dig(0)", 4).full("dig(0)").gives("undo(0)", 40).digestIs(first);
        Probe.says(19, "undone DEEDS go: others take their numbers");
        p.does("dig(0)", "dig(1)").gives("undo(1)", 1).gives("dig(2)", 1).gives("undo(1)", 1).tells("cell(2, 0)", 0)
                .tells("cell(1, 0)", 0).tells("cell(0, 0)", 4).gives("undo(0)", 1).digestIs(first);
        Probe.says(19, "IMAGES stay as they were");
        Probe.on("10=00").does("dig(1)", "dig(1)", "image(0)").gives("undo(0)", 2).gives("shovels(0)", 2, -2)
                .gives("on(0)", 1).gives("count(3)", 2).tells("cell(1, 0)", 2);
    }

    private static void image() {
        Probe.says(20, "IMAGES 0 .. 2: how many HOLES");
        Probe p = Probe.on("1010/0101/1010/0101=0000").gives("image(0)", 8).gives("image(2)", 8).gives("count(9)", 2);
        p.gives("image(1)", 8).gives("count(9)", 3).does("rain(12, 1)").gives("image(1)", 0).gives("count(9)", 3);
        Probe.says(20, "BAD");
        p.bad("image(-1)", "image(3)", "image(LEAST)", "image(MOST)");
        Probe.says(20, "STATE: no CELLS, behind BAD");
        new Probe().state("image(0)", "image(1)", "image(2)").bad("image(3)", "image(-1)");
        Probe.says(20, "an IMAGE is as the GROUND is, no longer as it was");
        Probe.on("10/00=00").gives("image(0)", 1).does("dig(3)").gives("image(0)", 2).gives("shovels(0)", 0, 0)
                .does("undo(0)").gives("on(0)", 2).gives("count(3)", 1).tells("cell(3, 0)", 1);
        Probe.says(20, "image() is no DEED");
        Probe.on("10=00").does("dig(0)", "image(0)").gives("count(4)", 1).gives("undo(0)", 1).gives("then(0, 0, 2)", 1, 2);
    }

    private static void on() {
        Probe.says(21, "the GROUND is as an IMAGE (DEPTHS, the CART): how many HOLES");
        Probe p = Probe.on("10/01=00").does("dig(0)").gives("image(2)", 2).does("dig(1)", "dig(3)", "image(0)");
        p.gives("on(2)", 2).gives("count(3)", 1).tells("cell(0, 0)", 2).tells("cell(1, 0)", 0).tells("cell(3, 0)", 1);
        p.gives("on(0)", 1).gives("count(3)", 3).tells("cell(3, 0)", 2);
        Probe.says(21, "no DEEDS then");
        p.does("dig(2)", "dig(2)").gives("count(4)", 2).gives("on(2)", 2).gives("count(4)", 0).gives("undo(0)", 0);
        p.bad("undo(1)").times(40, "rain(0, 1)").full("dig(0)").gives("on(0)", 1).gives("dig(0)", 3);
        Probe.says(21, "an IMAGE stays, whatever is done behind");
        p.gives("on(0)", 1).tells("cell(0, 0)", 2).gives("on(0)", 1);
        Probe.says(21, "NOTHING");
        p.finds(Probe.NOTHING, "on(1)");
        Probe.says(21, "BAD");
        p.bad("on(-1)", "on(3)", "on(LEAST)", "on(MOST)");
        Probe.says(21, "NOTHING, not STATE, where there are no CELLS");
        new Probe().finds(Probe.NOTHING, "on(0)", "on(2)").bad("on(3)");
        Probe.says(21, "the same DEED as before it, once more");
        Probe.on("10/00=00").does("image(0)").gives("dig(1)", 1).tells("hole(0, 0)", 3).gives("on(0)", 1).tells("hole(0, 0)", 1)
                .gives("dig(1)", 1).tells("hole(0, 0)", 3).tells("cell(1, 2)", 0).gives("undo(0)", 1).tells("hole(0, 0)", 1);
        Probe.says(21, "as an IMAGE without HOLES, full of HOLES");
        Probe.on("0000/0000/0000/0000=0000").gives("image(0)", 0)
                .does("dig(0)", "dig(2)", "dig(5)", "dig(7)", "dig(8)", "dig(10)", "dig(13)", "dig(15)").gives("image(1)", 8)
                .gives("on(0)", 0).gives("count(3)", 0).bad("hole(0, 0)").gives("on(1)", 8).tells("hole(7, 0)", 1 << 15);
    }

    private static void then() {
        Probe.says(22, "of a HOLE of an IMAGE, as hole() tells");
        Probe p = Probe.on("5500/0000/0010/1111=3012").does("image(2)", "rain(12, 1)", "fill(0)");
        int[][] due = {{3, 2, 10, 5, 0}, {0xF400, 5, 5, 1, 1}};
        for (int i = 0; i < 2; i++) {
            for (int what = 0; what < 5; what++) {
                p.tells("then(2, " + i + ", " + what + ")", due[i][what]);
            }
        }
        Probe.says(22, "BAD: also no such HOLE");
        p.bad("then(2, 2, 0)", "then(2, -1, 0)", "then(2, LEAST, 0)", "then(2, MOST, 0)").gives("count(2)", 1);
        Probe.on("00=00").does("image(0)", "dig(0)").gives("count(2)", 1).bad("then(0, 0, 0)");
        Probe.on("1010/0101/1010/0101=0123").does("image(0)", "rain(12, 1)").gives("count(2)", 0)
                .tells("then(0, 7, 0)", 1 << 15).tells("then(0, 7, 4)", 3).bad("then(0, 8, 0)", "hole(0, 0)");
    }

    private static void thenRefused() {
        Probe p = Probe.on("12=01").does("image(0)");
        Probe.says(22, "NOTHING (ahead of no such HOLE)");
        p.finds(Probe.NOTHING, "then(1, 0, 0)", "then(2, 1, 0)", "then(1, -1, 4)", "then(1, MOST, 0)", "then(2, LEAST, 0)");
        Probe.says(22, "BAD by an IMAGE's number, ahead of NOTHING");
        p.bad("then(-1, 0, 0)", "then(3, 0, 0)", "then(LEAST, 0, 0)", "then(MOST, 9, 9)");
        Probe.says(22, "BAD: what is none of 0 .. 4");
        p.bad("then(0, 0, -1)", "then(0, 0, 5)", "then(0, 0, LEAST)", "then(0, 0, MOST)");
        Probe.says(22, "BAD by what, ahead of NOTHING");
        p.bad("then(1, 0, 5)", "then(1, 0, -1)");
    }
}
