/**
 * What the document says ahead of its promises, sentence by sentence: 'What it is', 'The public face',
 * 'Terms', and the lines ahead of the groups of calls.
 */
public final class TermsTest {
    private static final int NOTHING = Probe.NOTHING, BEYOND = Probe.BEYOND, UNLIKE = Probe.UNLIKE;
    private static final int NOUGHT = Probe.NOUGHT, SIZE = Probe.SIZE, NONE = Probe.NONE;
    private static final String MANY = "1200/0103/5100/0012=0012prsbtd";

    public static void main(String[] args) {
        whatItIs();
        refusals();
        otherwise();
        findings();
        fractionsAndSets();
        rowsAndTexts();
        writtenGrounds();
        faults();
        cellsAndHoles();
        kinds();
        sames();
        deeds();
        images();
        lotsOfRain();
        groups();
        Probe.end("rain BAD FULL STATE", "ground BAD NOTHING STATE", "steal BAD NOTHING NONE", "mean NOUGHT");
    }

    private static void whatItIs() {
        Probe.says(0, "An object is used for at most 512 calls after it has been made");
        new Probe().does("row(0, 1)").times(509, "lay(0, 0, 7)").tells("lay(0, 0, 8)", 7);
    }

    private static void refusals() {
        Probe.says(0, "BAD -1, FULL -2, FINDING -3, STATE -4, SPENT -6, NONE -9");
        int[] due = {-1, -2, -3, -4, -6, -9};
        int[] got = {HoleMoved.BAD, HoleMoved.FULL, HoleMoved.FINDING, HoleMoved.STATE, HoleMoved.SPENT, HoleMoved.NONE};
        for (int i = 0; i < due.length; i++) {
            Probe.due("constant " + i, got[i], due[i]);
        }
        Probe.says(0, "the first of these that fits: BAD ahead of FULL");
        Probe.on("15=00").times(20, "dig(0)", "fill(0)").bad("dig(2)", "fill(2)", "rain(13, 1)", "rain(0, 0)").full("dig(0)",
                "rain(0, 1)");
        Probe.says(0, "the first of these that fits: BAD ahead of STATE");
        new Probe().bad("rain(13, 1)", "rain(1, 0)", "image(3)", "dig(0)").state("rain(12, 1)", "image(2)");
        Probe.on("05=00").bad("fill(2)", "dig(2)").state("fill(0)", "dig(1)");
        Probe.says(0, "the first of these that fits: BAD ahead of FINDING");
        new Probe().bad("row(6, -1)", "lay(6, 9, 9)", "at(-1, 0)", "tear(6)", "copy(0, 0, 6, 0, -1)", "mean(6)")
                .bad("text(4, -1)", "put(4, 0, 0)", "fault(4)", "ground(4)", "on(3)", "heaps(6)", "lies(6)", "day(6)")
                .bad("grounds(6)", "fair(3)", "shovels(3)", "suspect(3)", "then(3, 0, 0)");
        Probe.on("11=00p").bad("mark(1, 1)", "mark(0, 0)", "doubt(1, 0)", "same(1, 0, 0, 0)", "which(0, 3, 0)");
        Probe.says(0, "NONE (as an answer: a ROW that would come anew stays)");
        Probe.on("5000/0000/0000/0000=0111r").does("image(0)").lays(1, 6, 5, 4).none("steal(0, 0, 0, 1, 1)").rowIs(1, 6, 5, 4);
        Probe.says(0, "What is refused changes nothing but finding(), findings()");
        Probe.on(MANY).does("image(0)", "dig(0)", "share(0, 0)", "hole(0, 2)").lays(0, 1, 2)
                .bad("dig(16)", "undo(2)", "hole(9, 0)", "cell(16, 0)", "steal(0, 0, 3, 0, 0)", "copy(0, 0, 9, 0, 1)")
                .finds(BEYOND, "lay(0, 2, 5)", "copy(0, 1, 0, 0, 2)").finds(SIZE, "row(0, -1)", "text(0, -1)", "lies(0)")
                .finds(NOTHING, "on(1)", "ground(3)");
    }

    private static void otherwise() {
        Probe.says(0, "unless a call says so otherwise: FULL last");
        Probe.on("05=00").times(40, "rain(0, 1)").state("dig(1)", "fill(0)", "fill(1)").full("dig(0)", "rain(0, 1)");
        Probe.says(0, "unless a call says so otherwise: STATE behind NOTHING");
        new Probe().does("text(1, 3)").finds(NOTHING, "ground(0)").state("ground(1)");
        Probe.says(0, "unless a call says so otherwise: NOTHING ahead of no such HOLE");
        Probe.on("11=00p").finds(NOTHING, "then(0, 5, 0)", "same(0, 0, 5, 5)", "which(0, 0, 5)", "steal(0, 0, 5, 0, 0)");
    }

    private static void findings() {
        Probe.says(0, "1 NOTHING (a ROW, a TEXT, an IMAGE that is missing)");
        Probe p = Probe.on("11=00pr").finds(NOTHING, "at(0, 0)", "fault(1)", "on(0)").gives("findings(1)", 3);
        Probe.says(0, "2 BEYOND (a place of a ROW, a TEXT that there is not)");
        p.does("row(0, 4)").finds(BEYOND, "at(0, 4)", "put(0, 7, 0)").gives("findings(2)", 2);
        Probe.says(0, "3 UNLIKE (a LAW of another KIND; a number that is none)");
        p.finds(UNLIKE, "mark(1, 2)", "heaps(0)").gives("findings(3)", 2);
        Probe.says(0, "4 NOUGHT (shared among none)");
        p.does("row(1, 0)").finds(NOUGHT, "mean(1)").gives("findings(4)", 1);
        Probe.says(0, "5 SIZE (fewer than none; too many, not as many as due)");
        p.finds(SIZE, "row(2, -1)", "heaps(1)", "lies(0)").does("row(3, 7)").finds(SIZE, "heaps(3)").gives("findings(5)", 4);
        Probe.says(0, "finding() tells which");
        p.gives("finding()", SIZE).gives("findings(1)", 3).gives("findings(2)", 2);
    }

    private static void fractionsAndSets() {
        Probe.says(0, "Fractions are told by upper(), lower(), in lowest terms, the lower number above 0 (0 by 1)");
        Probe.on("24=13").parts("share(0, 1)", 1, 3).parts("share(0, 3)", 2, 3).parts("share(0, 2)", 0, 1)
                .parts("gone(0, 2, 6)", 1, 4).parts("odds(0, 12)", 1, 1);
        Probe.says(0, "Sets (of CELLS, of HOLES, of LAWS) are told by bits");
        Probe.on("101/000/101=000pbr").tells("hole(3, 0)", 256).does("image(0)").gives("which(1, 0, 2)", 15)
                .gives("which(2, 0, 2)", 4).gives("fair(0)", 5).gives("join(1, 3)", 1, 32);
    }

    private static void rowsAndTexts() {
        Probe.says(0, "ROWS 0 .. 5 are rows of 0 to 40 ints, TEXTS 0 .. 3 rows of 0 to 60 bytes, or missing (at first)");
        new Probe().finds(NOTHING, "tear(0)", "tear(5)", "fault(0)", "fault(3)").bad("row(6, 0)", "text(4, 0)")
                .gives("row(5, 40)", 40).gives("row(0, 0)", 0).gives("text(3, 60)", 60).gives("text(0, 0)", 0)
                .tells("lay(5, 39, MOST)", 0).tells("lay(5, 39, LEAST)", Integer.MAX_VALUE)
                .tells("at(5, 39)", Integer.MIN_VALUE).gives("put(3, 59, 128)", 1032).gives("put(3, 59, 0)", 872)
                .bad("row(5, 41)", "text(3, 61)");
    }

    private static void takes(String text, int cells, int columns, int laws) {
        new Probe().write(2, text).gives("fault(2)", NONE).gives("ground(2)", cells).gives("count(0)", cells)
                .gives("count(1)", columns).gives("count(5)", laws);
    }

    private static void writtenGrounds() {
        Probe.says(0, "A GROUND (without CELLS, LAWS at first)");
        new Probe().gives("count(0)", 0).gives("count(5)", 0).bad("cell(0, 0)", "law(0)");
        Probe.says(0, "blanks (32) ahead, behind as many as wanted");
        takes("    12=00p   ", 2, 2, 1);
        takes("12=00", 2, 2, 0);
        takes(" 12=00 ", 2, 2, 0);
        Probe.says(0, "Lines of DEPTHS (figures 0 .. 5) of CELLS, / (47) between two: 1 to 4 lines, 2 to 4 CELLS each");
        takes("05/43=00", 4, 2, 0);
        takes("051/430/222=000", 9, 3, 0);
        takes("0512/4300/2220/1111=0000", 16, 4, 0);
        Probe.says(0, "then = (61); for each column whose GARDEN it is (figures 0 .. 3)");
        Probe.on("0000=3210").tells("cell(0, 1)", 3).tells("cell(1, 1)", 2).tells("cell(2, 1)", 1).tells("cell(3, 1)", 0);
        Probe.says(0, "then LAWS 0, 1, .. (6 at most, none, too; as they come): a letter each");
        takes("00=00pppppp", 2, 2, 6);
        Probe.on("00=00dtbsr").gives("law(0)", 5).gives("law(1)", 4).gives("law(2)", 3).gives("law(3)", 2).gives("law(4)", 1)
                .bad("law(5)");
    }

    private static void faultAt(String text, int place) {
        new Probe().write(1, text).gives("fault(1)", place).state("ground(1)");
    }

    private static void faults() {
        Probe.says(0, "a blank where something is due is a sign that is none such");
        faultAt("1 2=00", 1);
        faultAt("12 =00", 2);
        faultAt("12= 00", 3);
        faultAt("12=0 0", 4);
        Probe.says(0, "behind blanks behind the LAWS anything else: its place");
        faultAt("12=00p  p", 8);
        faultAt("12=00 p", 6);
        faultAt("12=00p=", 6);
        Probe.says(0, "a sign, a figure that is none such: its place");
        faultAt("16=00", 1);
        faultAt("12=04", 4);
        faultAt("12=00x", 5);
        faultAt("12x00", 2);
        Probe.says(0, "a line that is too long or too short");
        faultAt("1/11=0", 1);
        faultAt("11111=0000", 4);
        faultAt("11/111=00", 5);
        faultAt("111/11=000", 6);
        Probe.says(0, "a fifth line, a seventh LAW: its place");
        faultAt("11/11/11/11/11=00", 11);
        faultAt("11=00prsbtdp", 11);
        Probe.says(0, "the TEXT's size, if its end comes too early, or there are blanks alone");
        faultAt("", 0);
        faultAt("   ", 3);
        faultAt("1", 1);
        faultAt("11", 2);
        faultAt("11/", 3);
        faultAt("11=", 3);
        faultAt("11=0", 4);
    }

    private static void cellsAndHoles() {
        Probe.says(0, "CELLS are told by their numbers, line by line from the first on (16 at most)");
        Probe.on("0123/4501/2345/0123=0000").tells("cell(3, 0)", 3).tells("cell(4, 0)", 4).tells("cell(5, 0)", 5)
                .tells("cell(15, 0)", 3).bad("cell(16, 0)");
        Probe.says(0, "CELLS with a side in common are beside one another; a HOLE is as many as hang together");
        Probe.on("110/010/001=000").gives("count(2)", 2).tells("hole(0, 0)", 19).tells("hole(1, 0)", 256);
        Probe.says(0, "CELLS of DEPTH above 0");
        Probe.on("50/01=00").tells("cell(0, 2)", 0).tells("cell(1, 2)", NONE).tells("cell(2, 2)", NONE).tells("cell(3, 2)", 1);
        Probe.says(0, "HOLES are 0, 1, .. by their least CELLS");
        Probe.on("0011/1001/1101=0000").tells("cell(2, 2)", 0).tells("cell(4, 2)", 1).tells("cell(11, 2)", 0)
                .tells("cell(9, 2)", 1).gives("count(2)", 2);
        Probe.says(0, "The VOLUME of one is all its DEPTHS together, its BOTTOM its greatest DEPTH");
        Probe.on("140/020=000").tells("hole(0, 2)", 7).tells("hole(0, 3)", 4);
    }

    private static void kinds() {
        Probe.says(0, "KINDS of LAWS and letters: p 112, r 114, s 115, b 98, t 116, d 100");
        int[] letters = {112, 114, 115, 98, 116, 100};
        for (int kind = 0; kind < letters.length; kind++) {
            new Probe().write(0, "00=00p").does("put(0, 5, " + letters[kind] + ")", "ground(0)").gives("law(0)", kind);
        }
        Probe.says(0, "1 RIM (a PLACE), 2 SHAPE (a RIM), 3 BULK (a PLACE), 4 TURNED (a SHAPE), 5 DEEP (a BULK)");
        String[] is = {"", "1", "12", "3", "124", "35"};
        Probe p = Probe.on("12=00prsbtd");
        for (int law = 0; law < is.length; law++) {
            for (int kind = 1; kind < is.length; kind++) {
                boolean so = is[law].indexOf('0' + kind) >= 0;
                Probe.due("LAW " + law + " is of KIND " + kind, p.call("mark(" + law + ", " + kind + ")") >= 0 ? 1 : 0,
                        so ? 1 : 0);
            }
        }
        p.gives("count(6)", 3);
    }

    private static void sames() {
        Probe.says(0, "SAME by a PLACE law, if they have a CELL in common");
        Probe p = Probe.on("110/000/000=000prsbtd").does("image(0)", "dig(4)");
        p.gives("same(0, 0, 0, 0)", 1);
        Probe.says(0, "by a RIM one, if they have just the same CELLS");
        p.gives("same(1, 0, 0, 0)", 0).does("undo(0)", "dig(0)").gives("same(1, 0, 0, 0)", 1);
        Probe.says(0, "by a SHAPE one, if the CELLS of one, pushed by so many columns and lines, are those of the other");
        p.does("undo(0)", "dig(7)", "dig(8)").gives("same(2, 0, 0, 1)", 1).gives("same(0, 0, 0, 1)", 0);
        p.does("undo(0)", "dig(6)", "dig(3)").gives("same(2, 0, 0, 0)", 0);
        Probe.says(0, "by a TURNED one, if they are so, perhaps turned (not mirrored)");
        Probe t = Probe.on("110/000/000=000prsbtd").does("image(0)", "dig(5)", "dig(8)");
        t.gives("same(4, 0, 0, 1)", 1).gives("same(2, 0, 0, 1)", 0);
        Probe.on("1000/1000/1100/0000=0000prsbtd").does("image(0)", "dig(7)", "dig(11)", "dig(15)", "dig(14)")
                .gives("same(4, 0, 0, 1)", 0).does("undo(3)", "dig(6)").gives("same(4, 0, 0, 1)", 1);
        Probe.says(0, "by a BULK one, if they have the same VOLUME; by a DEEP one, if the same VOLUME and BOTTOM");
        Probe.on("20/00/00=00prsbtd").does("image(0)", "dig(4)", "dig(5)").gives("same(3, 0, 0, 1)", 1)
                .gives("same(5, 0, 0, 1)", 0).does("undo(1)", "dig(4)").gives("same(5, 0, 0, 1)", 1);
    }

    private static void deeds() {
        Probe.says(0, "a CELL is DUG (1 deeper, 5 at most; the CART has 1 more EARTH)");
        Probe p = Probe.on("40=00").gives("count(3)", 0).gives("dig(0)", 5).gives("count(3)", 1).state("dig(0)");
        Probe.says(0, "FILLED (1 less deep, of the CART's EARTH)");
        p.gives("fill(0)", 4).gives("count(3)", 0).state("fill(0)", "fill(1)");
        Probe.says(0, "it RAINS (each CELL with DEPTH above 0 by what is drawn 1 less; no EARTH)");
        p.gives("rain(12, 1)", 1).gives("count(3)", 0).tells("cell(0, 0)", 3).tells("cell(1, 0)", 0);
        Probe.says(0, "These are DEEDS 0, 1, .. (40 at most)");
        p.gives("count(4)", 3).gives("undo(2)", 1).gives("count(4)", 2).tells("cell(0, 0)", 4)
                .times(38, "rain(0, 1)").gives("count(4)", 40).full("rain(0, 1)");
        Probe.says(0, "The CART is empty at first");
        Probe.on("11=00").gives("count(3)", 0).state("fill(0)");
    }

    private static void images() {
        Probe.says(0, "IMAGES 0 .. 2 are GROUNDS (DEPTHS, the CART) as they were, or missing");
        Probe.on("10=00").finds(NOTHING, "on(0)", "on(1)", "on(2)").bad("on(3)", "image(3)").does("dig(1)", "dig(1)")
                .gives("image(2)", 1).gives("count(9)", 1).does("fill(0)", "fill(1)").gives("on(2)", 1)
                .tells("cell(0, 0)", 1).tells("cell(1, 0)", 2).gives("count(3)", 2);
        Probe.says(0, "SHOVELS from one GROUND to another one are the differences of DEPTHS, CELL by CELL, together");
        Probe.on("31=00").does("image(0)", "dig(1)", "dig(1)", "fill(0)").gives("shovels(0)", 3, 1);
    }

    private static void lotsOfRain() {
        Probe.says(0, "LOTS: a number comes from the one ahead by 48271 times it modulo 2147483647, the first from a seed");
        // From seed 1: 48271, 182605794, 1291394886; modulo 12 they are 7, 6, 6.
        Probe.on("202/200=000").does("rain(7, 1)").tells("cell(0, 0)", 2).tells("cell(2, 0)", 1).tells("cell(3, 0)", 1);
        Probe.on("202/200=000").does("rain(6, 1)").tells("cell(0, 0)", 2).tells("cell(2, 0)", 2).tells("cell(3, 0)", 2);
        Probe.on("202/200=000").does("rain(8, 1)").tells("cell(0, 0)", 1).tells("cell(2, 0)", 1).tells("cell(3, 0)", 1);
        Probe.says(0, "a seed (1 .. 2147483646)");
        Probe.on("11=00").bad("rain(1, 0)", "rain(1, -1)", "rain(1, MOST)", "rain(1, LEAST)").gives("rain(12, 2147483646)", 0);
    }

    private static void groups() {
        Probe.says(0, "3: NOTHING, behind BAD by numbers of IMAGES, LAWS, ahead of BAD by HOLES");
        Probe.on("11=00p").bad("same(1, 0, 0, 0)", "same(0, 3, 0, 0)", "which(-1, 0, 0)", "doubt(0, -1)", "fair(-1)")
                .finds(NOTHING, "same(0, 0, 9, 0)", "same(0, 0, 0, 9)", "which(0, 2, -1)", "doubt(0, 1)", "fair(1)", "shovels(1)",
                        "suspect(1)")
                .does("image(0)").bad("same(0, 0, 1, 0)", "same(0, 0, 0, 1)", "which(0, 0, 1)");
        Probe.says(0, "4: aside; EARTH of the CART does not matter");
        Probe p = Probe.on("1010/1000/1000/0000=0112p").does("image(0)").gives("count(3)", 0);
        long before = p.digest();
        p.gives("carry(1, 1, 0)", 2).gives("join(0, 1)", 1, 2).gives("part(0)", 1, 16).digestIs(before);
        p.gives("steal(0, 0, 1, 0, 3)", 1).rowIs(3, 1);
    }
}
