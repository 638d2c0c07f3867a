import java.util.Arrays;

/** The edges that the document names for shares, heaps, witnesses and chances: promises 33 to 39. */
public final class EdgesOfWitnessesTest {
    public static void main(String[] args) {
        share();
        heapsBySize();
        heaps();
        for (String call : new String[] {"lies", "day", "grounds"}) {
            witnessesRefused(call);
        }
        liesByMeaning();
        lies();
        day();
        groundsByMeaning();
        grounds();
        odds();
        gone();
        Probe.end("share BAD", "heaps BAD NOTHING SIZE UNLIKE", "lies BAD NOTHING SIZE UNLIKE",
                "day BAD NOTHING SIZE UNLIKE NONE", "grounds BAD NOTHING SIZE UNLIKE", "odds BAD", "gone BAD");
    }

    private static void share() {
        Probe.says(33, "in lowest terms, the lower number above 0 (0 by 1)");
        Probe p = Probe.on("2140/0000=0121").parts("share(0, 0)", 2, 7).parts("share(0, 1)", 1, 7).parts("share(0, 2)", 4, 7);
        p.parts("share(0, 3)", 0, 1);
        Probe.on("24=01").parts("share(0, 0)", 1, 3).parts("share(0, 1)", 2, 3).parts("share(0, 2)", 0, 1);
        Probe.says(33, "the whole: 1 by 1");
        Probe.on("55/55=22").parts("share(0, 2)", 1, 1).parts("share(0, 0)", 0, 1).parts("share(0, 1)", 0, 1);
        Probe.says(33, "the largest VOLUME");
        Probe.on("5555/5555/5555/5555=0111").parts("share(0, 0)", 1, 4).parts("share(0, 1)", 3, 4).parts("share(0, 3)", 0, 1);
        Probe.on("1555/5555/5555/5555=0111").parts("share(0, 0)", 4, 19).parts("share(0, 1)", 15, 19);
        Probe.says(33, "of the VOLUME, not of CELLS");
        Probe.on("51=01").parts("share(0, 0)", 5, 6).parts("share(0, 1)", 1, 6);
        Probe.says(33, "BAD: no such HOLE");
        p.bad("share(-1, 0)", "share(1, 0)", "share(LEAST, 0)", "share(MOST, 0)");
        Probe.says(33, "BAD: a PERSON (0 .. 3)");
        p.bad("share(0, -1)", "share(0, 4)", "share(0, LEAST)", "share(0, MOST)", "share(1, 4)");
        Probe.on("00=00").bad("share(0, 0)");
        new Probe().bad("share(0, 0)").gives("lower()", 1);
    }

    private static void heapsBySize() {
        Probe.says(34, "1 to 6: SIZE: none, or more than 6");
        Probe p = Probe.on("1010/0101/1010=0000").gives("count(2)", 6).does("share(0, 0)");
        p.lays(0, 1, 1, 1, 1, 1, 1).parts("heaps(0)", 720, 1);
        p.lays(0, 1, 1, 1, 1, 1, 1, 1).finds(Probe.SIZE, "heaps(0)").gives("row(1, 40)", 40).finds(Probe.SIZE, "heaps(1)");
        p.gives("row(1, 0)", 0).finds(Probe.SIZE, "heaps(1)").lays(0, 1).parts("heaps(0)", 0, 1);
        Probe.says(34, "each 1 to 80: UNLIKE");
        p.lays(0, 80).parts("heaps(0)", 0, 1).lays(0, 81).finds(Probe.UNLIKE, "heaps(0)");
        p.lays(0, 0).finds(Probe.UNLIKE, "heaps(0)").lays(0, -1).finds(Probe.UNLIKE, "heaps(0)");
        p.lays(0, Integer.MAX_VALUE).finds(Probe.UNLIKE, "heaps(0)").lays(0, Integer.MIN_VALUE).finds(Probe.UNLIKE, "heaps(0)");
        p.lays(0, 1, 1, 1, 1, 1, 0).finds(Probe.UNLIKE, "heaps(0)").lays(0, 81, 1, 1, 1, 1, 1).finds(Probe.UNLIKE, "heaps(0)");
        p.lays(0, Integer.MAX_VALUE, Integer.MAX_VALUE, 2, 6).finds(Probe.UNLIKE, "heaps(0)");
        Probe.says(34, "SIZE ahead of UNLIKE");
        p.lays(0, 0, 0, 0, 0, 0, 0, 0).finds(Probe.SIZE, "heaps(0)").lays(0, 1, 1, 1, 1, 1, 1, 81).finds(Probe.SIZE, "heaps(0)");
        Probe.says(34, "NOTHING");
        Probe q = Probe.on("10=00").finds(Probe.NOTHING, "heaps(0)", "heaps(5)");
        Probe.says(34, "BAD");
        q.bad("heaps(-1)", "heaps(6)", "heaps(LEAST)", "heaps(MOST)").gives("upper()", 0);
    }

    private static void heaps() {
        Probe.says(34, "the largest heap out of the largest HOLE");
        Probe.on("5555/5555/5555/5555=0000").lays(0, 80).parts("heaps(0)", 1, 1).lays(0, 79).parts("heaps(0)", 0, 1)
                .lays(0, 80, 80).parts("heaps(0)", 0, 1).lays(0, 40, 40).parts("heaps(0)", 1, 1);
        Probe.says(34, "all together of each being its VOLUME: no more, no less");
        Probe p = Probe.on("3003/0000=0000").lays(0, 3, 3).parts("heaps(0)", 2, 1).lays(0, 3).parts("heaps(0)", 0, 1);
        p.lays(0, 3, 3, 1).parts("heaps(0)", 0, 1).lays(0, 3, 2).parts("heaps(0)", 0, 1).lays(0, 2, 4).parts("heaps(0)", 0, 1);
        p.lays(0, 6).parts("heaps(0)", 0, 1).lays(0, 1, 1, 1, 1, 1, 1).parts("heaps(0)", 20, 1).lays(0, 2, 1, 3).parts("heaps(0)", 2, 1);
        Probe.says(34, "more HOLES than heaps");
        Probe.on("1010/0101/1010/0101=0000").lays(0, 1, 1, 1, 1, 1, 1).parts("heaps(0)", 0, 1).lays(0, 1).parts("heaps(0)", 0, 1);
        Probe.says(34, "no HOLE, no CELLS");
        Probe.on("00=00").lays(0, 1).parts("heaps(0)", 0, 1);
        new Probe().lays(0, 1).parts("heaps(0)", 0, 1).lays(0, 81).finds(Probe.UNLIKE, "heaps(0)");
        Probe.says(34, "HOLES of now");
        Probe.on("10=00").lays(0, 2).parts("heaps(0)", 0, 1).does("dig(0)").parts("heaps(0)", 1, 1).gives("asked()", 0);
    }

    private static void witnessesRefused(String name) {
        int number = name.equals("lies") ? 35 : name.equals("day") ? 36 : 37;
        String call = name + "(0)";
        Probe p = Probe.on("12/34=00").does("share(0, 0)", "cell(1, 0)");
        Probe.says(number, "SIZE: not by threes");
        for (int n : new int[] {1, 2, 4, 5, 40}) {
            p.gives("row(0, " + n + ")", n).finds(Probe.SIZE, call);
        }
        Probe.says(number, "SIZE ahead of UNLIKE");
        p.lays(0, 9, 9, 9, 9).finds(Probe.SIZE, call);
        Probe.says(number, "UNLIKE: no such CELL, no such DEPTH, none of 0, 1, 2");
        int[][] threes = {{-1, 0, 0}, {4, 0, 0}, {16, 0, 0}, {Integer.MIN_VALUE, 0, 0}, {Integer.MAX_VALUE, 0, 0},
            {0, -1, 0}, {0, 6, 0}, {0, Integer.MIN_VALUE, 0}, {0, Integer.MAX_VALUE, 0},
            {0, 0, -1}, {0, 0, 3}, {0, 0, Integer.MIN_VALUE}, {0, 0, Integer.MAX_VALUE}};
        for (int[] three : threes) {
            Probe q = Probe.on("12/34=00").lays(0, three).finds(Probe.UNLIKE, call);
            q.lays(0, 3, 5, 2, three[0], three[1], three[2]).finds(Probe.UNLIKE, call);
            q.lays(0, three[0], three[1], three[2], 3, 5, 2).finds(Probe.UNLIKE, call);
        }
        Probe.says(number, "NOTHING");
        Probe q = Probe.on("12/34=00").finds(Probe.NOTHING, call, name + "(5)");
        Probe.says(number, "BAD");
        q.bad(name + "(-1)", name + "(6)", name + "(LEAST)", name + "(MOST)");
        Probe.says(number, "UNLIKE: no CELLS");
        new Probe().gives("row(0, 3)", 3).finds(Probe.UNLIKE, call).gives("row(0, 2)", 2).finds(Probe.SIZE, call);
    }

    private static void liesByMeaning() {
        Probe.says(35, "0: it was just so deep, 1: at least, 2: at most");
        for (int depth = 0; depth <= 5; depth++) {
            Probe p = Probe.on("0" + depth + "=00");
            for (int told = 0; told <= 5; told++) {
                p.lays(0, 1, told, 0).gives("lies(0)", depth != told ? 1 : 0, depth != told ? 0 : Probe.NONE);
                p.lays(0, 1, told, 1).gives("lies(0)", depth < told ? 1 : 0, depth < told ? 0 : Probe.NONE);
                p.lays(0, 1, told, 2).gives("lies(0)", depth > told ? 1 : 0, depth > told ? 0 : Probe.NONE);
            }
        }
    }

    private static void lies() {
        Probe.says(35, "none, too");
        Probe.on("12=00").gives("row(0, 0)", 0).gives("lies(0)", 0, Probe.NONE);
        new Probe().gives("row(0, 0)", 0).gives("lies(0)", 0, Probe.NONE);
        Probe.says(35, "as many witnesses as a ROW holds: 13; all lie, the last alone");
        Probe p = Probe.on("12/30=00").gives("row(0, 39)", 39).gives("lies(0)", 13, 0);
        int[] threes = new int[39];
        Arrays.setAll(threes, i -> i % 3 == 0 ? 3 : 0);
        threes[37] = 1;
        p.lays(0, threes).gives("lies(0)", 1, 12);
        Probe.says(35, "the first by asked() (NONE)");
        p.lays(0, 0, 1, 0, 1, 1, 0, 2, 1, 0).gives("lies(0)", 2, 1).does("dig(0)").gives("lies(0)", 3, 0);
        p.lays(0, 0, 2, 0).gives("lies(0)", 0, Probe.NONE);
        Probe.says(35, "the last CELL of 16");
        Probe.on("0000/0000/0000/0005=0000").lays(0, 15, 5, 0).gives("lies(0)", 0, Probe.NONE).lays(0, 15, 4, 0).gives("lies(0)", 1, 0);
        Probe.says(35, "one witness against another");
        Probe.on("12=00").lays(0, 0, 0, 0, 0, 1, 0, 0, 2, 0).gives("lies(0)", 2, 0);
    }

    private static void day() {
        Probe.says(36, "NONE: no IMAGE is there; asked() stays");
        Probe p = Probe.on("12=00").does("cell(1, 0)").lays(0, 0, 0, 0).does("cell(1, 0)").none("day(0)").gives("asked()", 2);
        new Probe().gives("row(0, 0)", 0).none("day(0)");
        Probe.says(36, "SIZE, UNLIKE, NOTHING ahead of NONE");
        p.gives("row(1, 1)", 1).finds(Probe.SIZE, "day(1)").lays(1, 2, 0, 0).finds(Probe.UNLIKE, "day(1)").finds(Probe.NOTHING, "day(2)");
        Probe.says(36, "the only IMAGE, though all lie");
        p.does("image(2)").gives("day(0)", 2, 1);
        Probe.says(36, "the IMAGE (the least) of which fewest of these lie");
        p.does("image(1)").gives("day(0)", 1, 1).does("rain(12, 1)", "image(2)").gives("day(0)", 2, 0);
        p.does("image(0)").gives("day(0)", 0, 0).does("dig(0)", "image(0)").gives("day(0)", 2, 0);
        Probe.says(36, "none, too: of the least IMAGE none lies");
        p.gives("row(3, 0)", 0).gives("day(3)", 0, 0);
        Probe.says(36, "of IMAGES, not of now");
        Probe.on("10=00").does("image(1)").times(4, "dig(0)").lays(0, 0, 5, 0).gives("lies(0)", 0, Probe.NONE).gives("day(0)", 1, 1);
        Probe.says(36, "13 witnesses");
        Probe.on("10=00").does("image(0)", "dig(0)", "image(1)").gives("row(0, 39)", 39).gives("day(0)", 0, 13);
    }

    private static void groundsByMeaning() {
        Probe.says(37, "all DEPTHS 0 .. 5");
        Probe p = Probe.on("12=00");
        for (int told = 0; told <= 5; told++) {
            p.lays(0, 1, told, 0).parts("grounds(0)", 1, 1);
            p.lays(0, 1, told, 1).parts("grounds(0)", 6 - told, 1);
            p.lays(0, 1, told, 2).parts("grounds(0)", told + 1, 1);
        }
    }

    private static void grounds() {
        Probe.says(37, "no witness: one GROUND");
        Probe.on("12=00").gives("row(0, 0)", 0).parts("grounds(0)", 1, 1);
        new Probe().gives("row(0, 0)", 0).parts("grounds(0)", 1, 1);
        Probe.says(37, "CELLS about which some witness speaks, each once");
        Probe p = Probe.on("12=00").lays(0, 0, 0, 1, 0, 0, 1).parts("grounds(0)", 6, 1).lays(0, 0, 0, 1, 1, 5, 2).parts("grounds(0)", 36, 1);
        Probe.says(37, "none of these lies: against one another");
        p.lays(0, 0, 2, 1, 0, 3, 2).parts("grounds(0)", 2, 1).lays(0, 0, 3, 1, 0, 2, 2).parts("grounds(0)", 0, 1);
        p.lays(0, 0, 3, 0, 0, 3, 0).parts("grounds(0)", 1, 1).lays(0, 1, 0, 1, 0, 3, 0, 0, 4, 0).parts("grounds(0)", 0, 1);
        Probe.says(37, "whatever is now");
        p.lays(0, 0, 5, 1).parts("grounds(0)", 1, 1);
        Probe.says(37, "as many as can be, above an int: 13 CELLS");
        int[] threes = new int[39];
        Arrays.setAll(threes, i -> i % 3 == 0 ? 15 - i / 3 : i % 3 == 1 ? 0 : 1);
        Probe.on("0000/0000/0000/0000=0000").lays(0, threes).parts("grounds(0)", 13060694016L, 1).gives("asked()", 0);
    }

    private static void odds() {
        Probe.says(38, "p 0 .. 12");
        Probe p = Probe.on("1020/0000=0000").parts("odds(0, 0)", 1, 1).parts("odds(0, 1)", 11, 12).parts("odds(0, 11)", 1, 12);
        p.parts("odds(0, 12)", 0, 1).parts("odds(0, 6)", 1, 2).parts("odds(1, 12)", 1, 1).parts("odds(1, 0)", 1, 1);
        Probe.says(38, "BAD: p");
        p.bad("odds(0, -1)", "odds(0, 13)", "odds(0, LEAST)", "odds(0, MOST)");
        Probe.says(38, "BAD: no such HOLE");
        p.bad("odds(-1, 0)", "odds(2, 0)", "odds(LEAST, 0)", "odds(MOST, 0)", "odds(2, 13)");
        Probe.on("00=00").bad("odds(0, 0)");
        Probe.says(38, "each CELL by itself: one that is 1 deep, not deeper ones");
        Probe.on("1215/0000=0000").parts("odds(0, 4)", 4, 9);
        Probe.says(38, "all 16 CELLS 1 deep: above an int");
        Probe.on("1111/1111/1111/1111=0000").parts("odds(0, 1)", 45949729863572161L, 184884258895036416L)
                .parts("odds(0, 11)", 1, 184884258895036416L).parts("odds(0, 12)", 0, 1).parts("odds(0, 6)", 1, 65536)
                .parts("odds(0, 5)", 33232930569601L, 184884258895036416L);
        Probe.says(38, "all 16 CELLS 5 deep");
        Probe.on("5555/5555/5555/5555=0000").parts("odds(0, 12)", 1, 1);
    }

    private static void gone() {
        Probe.says(39, "n 0 .. 8");
        Probe p = Probe.on("01/25=00").parts("gone(1, 0, 12)", 0, 1).parts("gone(1, 1, 6)", 1, 2).parts("gone(1, 8, 6)", 255, 256);
        Probe.says(39, "BAD: n");
        p.bad("gone(1, -1, 6)", "gone(1, 9, 6)", "gone(1, LEAST, 6)", "gone(1, MOST, 6)");
        Probe.says(39, "p 0 .. 12");
        p.parts("gone(1, 8, 0)", 0, 1).parts("gone(1, 1, 12)", 1, 1).parts("gone(1, 1, 1)", 1, 12).parts("gone(1, 1, 11)", 11, 12);
        Probe.says(39, "BAD: p");
        p.bad("gone(1, 1, -1)", "gone(1, 1, 13)", "gone(1, 1, LEAST)", "gone(1, 1, MOST)");
        Probe.says(39, "BAD: no such CELL");
        p.bad("gone(-1, 1, 1)", "gone(4, 1, 1)", "gone(16, 1, 1)", "gone(LEAST, 1, 1)", "gone(MOST, 9, 13)");
        new Probe().bad("gone(0, 0, 0)");
        Probe.says(39, "a CELL that is not DUG, without rain, with all rain");
        p = Probe.on("01/25=00").parts("gone(0, 0, 0)", 1, 1).parts("gone(0, 8, 12)", 1, 1).parts("gone(0, 8, 7)", 1, 1);
        Probe.says(39, "as many rains as it is deep, one less");
        p.parts("gone(3, 5, 12)", 1, 1).parts("gone(3, 4, 12)", 0, 1).parts("gone(2, 2, 12)", 1, 1).parts("gone(2, 1, 12)", 0, 1);
        p.parts("gone(3, 5, 1)", 1, 248832).parts("gone(3, 8, 12)", 1, 1).parts("gone(2, 2, 3)", 1, 16);
        Probe.says(39, "more rains than it is deep: none below 0");
        p.parts("gone(1, 2, 3)", 7, 16).parts("gone(2, 3, 6)", 1, 2).parts("gone(3, 8, 1)", 78013, 429981696);
        Probe.says(39, "the DEPTH of now");
        Probe.on("00=00").parts("gone(0, 0, 5)", 1, 1).does("dig(0)").parts("gone(0, 0, 5)", 0, 1).parts("gone(0, 1, 5)", 5, 12);
    }
}
