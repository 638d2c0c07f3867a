/** The edges that the document names for which HOLE is which: promises 23 to 28. */
public final class EdgesOfWhichTest {
    public static void main(String[] args) {
        byPlaceAndRim();
        byShape();
        byTurned();
        byBulkAndDeep();
        sameRefused();
        which();
        doubt();
        fair();
        fairOfEach();
        shovels();
        suspect();
        Probe.end("same BAD NOTHING", "which BAD NOTHING", "doubt BAD NOTHING", "fair BAD NOTHING", "shovels BAD NOTHING",
                "suspect BAD NOTHING NONE");
    }

    /** A GROUND with all LAWS that is one now and was another one then: IMAGE 0. */
    private static Probe fromTo(String then, String now) {
        int columns = then.indexOf('/') < 0 ? then.length() : then.indexOf('/');
        // It begins without HOLES: so there is EARTH in the CART for whatever is to be filled.
        Probe p = Probe.on(then.replaceAll("[1-5]", "0") + "=" + "0123".substring(0, columns) + "prsbtd");
        for (int c = 0; c < then.replace("/", "").length(); c++) {
            p.times(then.replace("/", "").charAt(c) - '0', "dig(" + c + ")");
        }
        p.does("image(0)", "on(0)");
        for (int c = 0; c < then.replace("/", "").length(); c++) {
            int deeper = now.replace("/", "").charAt(c) - then.replace("/", "").charAt(c);
            p.times(deeper, "dig(" + c + ")").times(-deeper, "fill(" + c + ")");
        }
        return p;
    }

    /** Whether HOLE 0 of then and HOLE 0 of now are the SAME by PLACE, RIM, SHAPE, BULK, TURNED, DEEP. */
    private static void laws(String then, String now, int... due) {
        Probe p = fromTo(then, now);
        for (int law = 0; law < due.length; law++) {
            p.gives("same(" + law + ", 0, 0, 0)", due[law]).gives("which(" + law + ", 0, 0)", due[law]);
        }
    }

    private static void byPlaceAndRim() {
        Probe.says(23, "by a PLACE law, if they have a CELL in common; by a RIM one, if they have just the same CELLS");
        laws("110/000", "110/000", 1, 1, 1, 1, 1, 1);
        laws("110/000", "240/000", 1, 1, 1, 0, 1, 0);
        laws("110/000", "011/000", 1, 0, 1, 1, 1, 1);
        laws("110/000", "111/000", 1, 0, 0, 0, 0, 0);
        laws("110/000", "100/000", 1, 0, 0, 0, 0, 0);
        laws("110/000", "000/011", 0, 0, 1, 1, 1, 1);
        laws("1000/0000/0000/0000", "1111/1111/1111/1111", 1, 0, 0, 0, 0, 0);
        laws("1111/1111/1111/1111", "1111/1111/1111/1110", 1, 0, 0, 0, 0, 0);
        laws("1111/1111/1111/1111", "1111/1111/1111/1112", 1, 1, 1, 0, 1, 0);
    }

    private static void byShape() {
        Probe.says(23, "by a SHAPE one, if the CELLS of one, pushed by so many columns and lines, are those of the other");
        laws("1000/0000/0000/0000", "0000/0000/0000/0005", 0, 0, 1, 0, 1, 0);
        laws("1100/1000/0000/0000", "0000/0000/0011/0010", 0, 0, 1, 1, 1, 1);
        laws("0011/0010/0000/0000", "1100/1000/0000/0000", 0, 0, 1, 1, 1, 1);
        laws("11/10/00", "00/11/10", 1, 0, 1, 1, 1, 1);
        Probe.says(23, "pushed, not turned");
        laws("11/00/00", "00/10/10", 0, 0, 0, 1, 1, 1);
        Probe.says(23, "pushed, and not over the end of a line");
        laws("0110/0100/0000", "0001/0011/0000", 0, 0, 0, 1, 1, 1);
        laws("111/000/000", "000/011/001", 0, 0, 0, 1, 0, 1);
    }

    private static void byTurned() {
        String foot = "1000/1000/1100/0000";
        Probe.says(23, "by a TURNED one: turned by a quarter ahead");
        laws(foot, "0000/1110/1000/0000", 1, 0, 0, 1, 1, 1);
        Probe.says(23, "turned by a half");
        laws(foot, "0011/0001/0001/0000", 0, 0, 0, 1, 1, 1);
        Probe.says(23, "turned by three quarters");
        laws(foot, "0000/0010/1110/0000", 1, 0, 0, 1, 1, 1);
        Probe.says(23, "so, not turned");
        laws(foot, "0010/0010/0011/0000", 0, 0, 1, 1, 1, 1);
        Probe.says(23, "not mirrored, not turned and mirrored");
        laws(foot, "0001/0001/0011/0000", 0, 0, 0, 1, 0, 1);
        laws(foot, "0011/0010/0010/0000", 0, 0, 0, 1, 0, 1);
        laws(foot, "0000/0000/1000/1110", 1, 0, 0, 1, 0, 1);
        laws(foot, "0000/0000/1110/0010", 1, 0, 0, 1, 0, 1);
        Probe.says(23, "turned, the longest");
        laws("1111/0000/0000/0000", "0001/0001/0001/0001", 1, 0, 0, 1, 1, 1);
        laws("1000/1000/1000/1000", "0000/0000/0000/1111", 1, 0, 0, 1, 1, 1);
        Probe.says(23, "turned, but another one of as many CELLS");
        laws("11/11/00", "10/11/01", 1, 0, 0, 1, 0, 1);
        Probe.says(23, "turned on a GROUND of two columns, of one line");
        laws("11/00/00/00", "00/00/01/01", 0, 0, 0, 1, 1, 1);
        laws("1110", "0111", 1, 0, 1, 1, 1, 1);
    }

    private static void byBulkAndDeep() {
        Probe.says(23, "by a BULK one, if they have the same VOLUME; by a DEEP one, if VOLUME and BOTTOM");
        laws("400/000", "000/022", 0, 0, 0, 1, 0, 0);
        laws("310/000", "000/013", 0, 0, 1, 1, 1, 1);
        laws("310/000", "000/113", 0, 0, 0, 0, 0, 0);
        laws("320/000", "230/000", 1, 1, 1, 1, 1, 1);
        laws("320/000", "410/000", 1, 1, 1, 1, 1, 0);
        laws("500/000", "400/000", 1, 1, 1, 0, 1, 0);
    }

    private static void sameRefused() {
        Probe.says(23, "as many HOLES as there were then, as there are now");
        Probe p = fromTo("1010/0000/1000", "0000/0000/1010").gives("count(2)", 2);
        p.gives("same(0, 0, 2, 0)", 1).gives("same(0, 0, 2, 1)", 0).gives("same(0, 0, 0, 1)", 0);
        Probe.says(23, "BAD by HOLES");
        p.bad("same(0, 0, 3, 0)", "same(0, 0, -1, 0)", "same(0, 0, LEAST, 0)", "same(0, 0, MOST, 0)");
        p.bad("same(0, 0, 0, 2)", "same(0, 0, 0, -1)", "same(0, 0, 0, LEAST)", "same(0, 0, 0, MOST)");
        Probe.says(23, "NOTHING, ahead of BAD by HOLES");
        p.finds(Probe.NOTHING, "same(0, 1, 0, 0)", "same(5, 2, 3, 0)", "same(0, 1, -1, -1)", "same(0, 1, 0, MOST)");
        Probe.says(23, "BAD by numbers of LAWS, IMAGES, ahead of NOTHING");
        p.bad("same(-1, 0, 0, 0)", "same(6, 0, 0, 0)", "same(LEAST, 1, 0, 0)", "same(MOST, 1, 0, 0)", "same(6, 1, 9, 9)");
        p.bad("same(0, -1, 0, 0)", "same(0, 3, 0, 0)", "same(0, LEAST, 0, 0)", "same(0, MOST, 9, 9)");
        Probe.says(23, "BAD: no LAW, no HOLE of then, no HOLE of now");
        Probe.on("10=00").does("image(0)").bad("same(0, 0, 0, 0)");
        Probe.on("00=00p").does("image(0)", "dig(0)").bad("same(0, 0, 0, 0)");
        Probe.on("00=00p").does("dig(0)", "image(0)", "undo(0)").bad("same(0, 0, 0, 0)");
        Probe.says(23, "asked() stays");
        p.does("hole(0, 1)").gives("same(1, 0, 2, 0)", 1).gives("asked()", 1);
    }

    private static void which() {
        Probe.says(24, "HOLES of now (bits): none of none, all of 8");
        Probe.on("10=00prsbtd").does("image(0)", "rain(12, 1)").gives("count(2)", 0).gives("which(0, 0, 0)", 0)
                .gives("which(5, 0, 0)", 0);
        Probe p = Probe.on("1010/0101/1010/0101=0123prsbtd").does("image(0)");
        p.gives("which(0, 0, 0)", 1).gives("which(1, 0, 7)", 128).gives("which(2, 0, 7)", 255).gives("which(3, 0, 0)", 255);
        p.gives("which(4, 0, 3)", 255).gives("which(5, 0, 7)", 255);
        Probe.says(24, "BAD by HOLES");
        p.bad("which(0, 0, 8)", "which(0, 0, -1)", "which(0, 0, LEAST)", "which(0, 0, MOST)");
        Probe.says(24, "NOTHING, ahead of BAD by HOLES");
        p.finds(Probe.NOTHING, "which(0, 1, 0)", "which(5, 2, 8)", "which(0, 1, -1)", "which(0, 2, MOST)");
        Probe.says(24, "BAD by numbers of LAWS, IMAGES, ahead of NOTHING");
        p.bad("which(-1, 0, 0)", "which(6, 0, 0)", "which(LEAST, 1, 0)", "which(MOST, 1, 0)", "which(6, 1, 9)");
        p.bad("which(0, -1, 0)", "which(0, 3, 0)", "which(0, LEAST, 0)", "which(0, MOST, 9)");
        Probe.says(24, "BAD by HOLES: as many as there were then, not as there are now");
        Probe.on("100/000=000p").does("image(0)", "dig(5)").gives("count(2)", 2).bad("which(0, 0, 1)").gives("which(0, 0, 0)", 1);
        Probe.on("100/001=000b").does("image(0)", "rain(12, 1)").gives("which(0, 0, 1)", 0).bad("which(0, 0, 2)");
    }

    private static void doubt() {
        Probe.says(25, "as more than one, as none by asked(): of none");
        Probe.on("00=00b").does("image(0)").gives("doubt(0, 0)", 0, 0).does("dig(0)").gives("doubt(0, 0)", 0, 0);
        Probe.says(25, "all 8, of now none");
        Probe p = Probe.on("1010/0101/1010/0101=0123prsbtd").does("image(0)");
        p.gives("doubt(3, 0)", 8, 0).gives("doubt(2, 0)", 8, 0).gives("doubt(0, 0)", 0, 0).gives("doubt(1, 0)", 0, 0);
        p.does("rain(12, 1)").gives("doubt(3, 0)", 0, 8).gives("doubt(0, 0)", 0, 8).does("undo(0)");
        Probe.says(25, "as just one is neither, as two is more than one");
        Probe.on("1020/0000=0000b").does("image(0)").gives("doubt(0, 0)", 0, 0).does("dig(7)").gives("doubt(0, 0)", 1, 0)
                .does("dig(7)", "dig(7)").gives("doubt(0, 0)", 0, 0).does("dig(2)").gives("doubt(0, 0)", 0, 1);
        p.does("dig(1)").gives("doubt(0, 0)", 0, 0).gives("doubt(1, 0)", 0, 3);
        Probe.says(25, "NOTHING");
        p.finds(Probe.NOTHING, "doubt(0, 1)", "doubt(5, 2)");
        Probe.says(25, "BAD, ahead of NOTHING");
        p.bad("doubt(-1, 0)", "doubt(6, 0)", "doubt(LEAST, 1)", "doubt(MOST, 1)", "doubt(6, 1)");
        p.bad("doubt(0, -1)", "doubt(0, 3)", "doubt(0, LEAST)", "doubt(0, MOST)");
        Probe.on("10=00").does("image(0)").bad("doubt(0, 0)");
    }

    private static void fair() {
        Probe.says(26, "LAWS (bits): no LAWS, all 6");
        Probe.on("10=00").does("image(0)").gives("fair(0)", 0);
        Probe.on("10=00prsbtd").does("image(0)").gives("fair(0)", 63);
        Probe.on("10=00bbbbbb").does("image(2)", "dig(0)").gives("fair(2)", 0).does("undo(0)").gives("fair(2)", 63);
        Probe.says(26, "no HOLES, then and now");
        Probe.on("00=00prsbtd").does("image(0)").gives("fair(0)", 63);
        Probe.says(26, "no HOLES then, one now, and the other way");
        Probe.on("00=00prsbtd").does("image(0)", "dig(0)").gives("fair(0)", 0).does("image(1)", "undo(0)").gives("fair(1)", 0);
        Probe.says(26, "NOTHING");
        Probe p = Probe.on("10=00p").does("image(1)").finds(Probe.NOTHING, "fair(0)", "fair(2)");
        Probe.says(26, "BAD");
        p.bad("fair(-1)", "fair(3)", "fair(LEAST)", "fair(MOST)").gives("fair(1)", 1);
    }

    private static void fairOfEach() {
        Probe.says(26, "each HOLE of an IMAGE as just one of now");
        fromTo("1000/0000/0001", "1010/0000/0001").gives("fair(0)", 0);
        fromTo("1020/0000", "1020/0000").gives("fair(0)", 0b101011);
        Probe.says(26, "and each of now as just one of these");
        fromTo("1010/0000", "1110/0000").gives("fair(0)", 0).gives("doubt(0, 0)", 0, 0);
        fromTo("1010/0000/1000", "1110/0000/0010").gives("which(0, 0, 0)", 1).gives("which(0, 0, 1)", 1).gives("fair(0)", 0);
        Probe.says(26, "as many, each as just one, but two of then as the same one of now");
        fromTo("1010/0000/0000", "1110/0000/0001").gives("count(2)", 2).gives("doubt(0, 0)", 0, 0).gives("fair(0)", 0);
        Probe.says(26, "crosswise");
        fromTo("1020/0304/0000", "4030/0201/0000").gives("fair(0)", 0b101011).gives("which(3, 0, 0)", 8);
    }

    private static void shovels() {
        Probe.says(27, "none: the same");
        Probe p = Probe.on("12=00").does("image(0)").gives("shovels(0)", 0, 0);
        Probe.says(27, "CELL by CELL, together; all DEPTHS of now less all of then by asked()");
        p.does("dig(0)", "dig(0)", "fill(1)").gives("shovels(0)", 3, 1);
        p.does("dig(1)", "fill(0)").gives("shovels(0)", 1, 1).does("fill(0)").gives("shovels(0)", 0, 0);
        Probe.says(27, "as many as can be: 80, perhaps below 0");
        p = Probe.on("5555/5555/5555/5555=0000").does("image(0)").times(5, "rain(12, 1)").gives("shovels(0)", 80, -80);
        p.does("image(2)", "on(0)").gives("shovels(2)", 80, 80).gives("shovels(0)", 0, 0);
        Probe.says(27, "moved, but as much");
        fromTo("5000/0000", "0000/0005").gives("shovels(0)", 10, 0);
        Probe.says(27, "NOTHING");
        p.finds(Probe.NOTHING, "shovels(1)");
        Probe.says(27, "BAD");
        p.bad("shovels(-1)", "shovels(3)", "shovels(LEAST)", "shovels(MOST)");
    }

    private static void suspect() {
        Probe.says(28, "the CELL (the first) that is deepest DUG; by how much");
        Probe p = Probe.on("100/000=000").does("image(0)", "dig(5)").gives("suspect(0)", 5, 1);
        p.does("dig(1)").gives("suspect(0)", 1, 1).does("dig(5)").gives("suspect(0)", 5, 2);
        p.does("dig(0)", "dig(0)").gives("suspect(0)", 0, 2);
        Probe.says(28, "by 5, the most");
        Probe.on("00=00").does("image(0)").times(5, "dig(1)").does("dig(0)").gives("suspect(0)", 1, 5);
        Probe.says(28, "deeper against an IMAGE, not deepest of all");
        Probe.on("05/00=00").does("image(0)", "dig(0)").gives("suspect(0)", 0, 1);
        Probe.says(28, "NONE: none is deeper; asked() stays");
        p = Probe.on("12=00").does("image(0)", "cell(1, 0)").none("suspect(0)");
        p.does("rain(12, 1)").none("suspect(0)").gives("asked()", 2);
        Probe.says(28, "NOTHING");
        p.finds(Probe.NOTHING, "suspect(1)", "suspect(2)");
        Probe.says(28, "BAD");
        p.bad("suspect(-1)", "suspect(3)", "suspect(LEAST)", "suspect(MOST)");
    }
}
