/** The edges that the document names for GROUNDS, CELLS, LAWS and HOLES: promises 10 to 15. */
public final class EdgesOfGroundsTest {
    private static final String[] IS = {"p", "rp", "srp", "bp", "tsrp", "dbp"};

    public static void main(String[] args) {
        blanks();
        lines();
        gardens();
        laws();
        endsTooEarly();
        everySign();
        fullTexts();
        faultRefused();
        ground();
        groundAnew();
        groundRefused();
        cell();
        law();
        markUnlike();
        markRefused();
        markAtEdges();
        hole();
        holesHang();
        Probe.end("fault BAD NOTHING NONE", "ground BAD NOTHING STATE", "cell BAD", "law BAD", "mark BAD UNLIKE",
                "hole BAD");
    }

    /** The FAULT of a TEXT; what has one is no GROUND, and what has none is one of so many CELLS. */
    private static void fault(String signs, int want) {
        Probe p = new Probe().write(3, signs).gives("fault(3)", want);
        if (want == Probe.NONE) {
            p.none("fault(3)").gives("ground(3)", signs.substring(0, signs.indexOf('=')).replaceAll("[ /]", "").length());
        } else {
            p.state("ground(3)");
        }
    }

    private static void blanks() {
        Probe.says(10, "blanks (32) ahead, behind as many as wanted");
        fault("12=01p", Probe.NONE);
        fault(" 12=01p", Probe.NONE);
        fault("12=01p ", Probe.NONE);
        fault("       12=01p        ", Probe.NONE);
        fault("  12=01  ", Probe.NONE);
        Probe.says(10, "none within (a blank where something is due is a sign that is none such)");
        fault("1 2=01p", 1);
        fault("12 /12=01p", 2);
        fault("12/ 12=01p", 3);
        fault("12/1 2=01p", 4);
        fault("12 =01p", 2);
        fault("12= 01p", 3);
        fault("12=0 1p", 4);
        fault("  1 2=01p", 3);
        fault("1234 =0123", 4);
        Probe.says(10, "a blank where something is due, though nothing but blanks comes behind it");
        fault("1 ", 1);
        fault("12 ", 2);
        fault("12/ ", 3);
        fault("12/1  ", 4);
        fault("12= ", 3);
        fault("  12=0   ", 6);
        Probe.says(10, "behind blanks behind the LAWS anything else: its place");
        fault("12=01 p", 6);
        fault("12=01p p", 7);
        fault("12=01p    r", 10);
        fault("12=01p  /  ", 8);
        fault("12=01pppppp  x", 13);
        fault("12=01 0", 6);
        Probe.says(10, "blanks alone: the TEXT's size");
        fault("", 0);
        fault(" ", 1);
        fault(" ".repeat(59), 59);
        fault(" ".repeat(60), 60);
    }

    private static void lines() {
        Probe.says(10, "figures 0 .. 5");
        fault("05=00", Probe.NONE);
        fault("06=00", 1);
        fault("60=00", 0);
        fault("09=00", 1);
        fault("-1=00", 0);
        Probe.says(10, "2 to 4 CELLS each: a line that is too short, too long");
        fault("1=0", 1);
        fault("12=00", Probe.NONE);
        fault("123=000", Probe.NONE);
        fault("1234=0000", Probe.NONE);
        fault("12345=00000", 4);
        fault("1/1=0", 1);
        fault("=", 0);
        fault("/12=00", 0);
        Probe.says(10, "all alike long");
        fault("12/1=00", 4);
        fault("12/12=00", Probe.NONE);
        fault("12/123=00", 5);
        fault("123/12=000", 6);
        fault("1234/123=0000", 8);
        fault("1234/12340=0000", 9);
        fault("12/12/1=00", 7);
        fault("12/12/123/12=00", 8);
        fault("12/=00", 3);
        fault("12//12=00", 3);
        Probe.says(10, "1 to 4 lines: a fifth line");
        fault("12/12/12=00", Probe.NONE);
        fault("12/12/12/12=00", Probe.NONE);
        fault("12/12/12/12/12=00", 11);
        fault("1234/1234/1234/1234/1234=0000", 19);
        fault(" 123/123/123/123/", 16);
        Probe.says(10, "then =");
        fault("12p", 2);
        fault("12:00", 2);
        fault("12/12x", 5);
        fault("12/12/12/12:00", 11);
    }

    private static void gardens() {
        Probe.says(10, "for each column whose GARDEN it is (figures 0 .. 3)");
        fault("12=03", Probe.NONE);
        fault("12=04", 4);
        fault("12=40", 3);
        fault("12==0", 3);
        fault("12=/0", 3);
        fault("12=0p", 4);
        fault("123=01p", 6);
        fault("1234=0123", Probe.NONE);
        fault("1234=012", 8);
        fault("1234=012p", 8);
        Probe.says(10, "no GARDEN more than columns");
        fault("12=000", 5);
        fault("1234=01230", 9);
        fault("12=00=", 5);
    }

    private static void laws() {
        Probe.says(10, "LAWS (6 at most, none, too; as they come): a letter each");
        fault("12=00", Probe.NONE);
        for (char letter : "prsbtd".toCharArray()) {
            fault("12=00" + letter, Probe.NONE);
        }
        fault("12=00dtbsrp", Probe.NONE);
        fault("12=00tttttt", Probe.NONE);
        fault("12=00x", 5);
        fault("12=00px", 6);
        fault("12=00P", 5);
        fault("12=00prsbtx", 10);
        Probe.says(10, "a seventh LAW: its place");
        fault("12=00prsbtdp", 11);
        fault("12=00pppppppp", 11);
        fault("1234/1234/1234/1234=0123prsbtdr", 30);
        fault("12=00prsbtd r", 12);
    }

    private static void endsTooEarly() {
        Probe.says(10, "the TEXT's size, if its end comes too early");
        String whole = "  123/123/123/123=012";
        for (int n = 0; n < whole.length(); n++) {
            // Behind the third line an = would do, too, but none of these has one ahead of its place.
            fault(whole.substring(0, n), n);
        }
        fault(whole, Probe.NONE);
    }

    /** Every byte at a place of each sort. */
    private static void everySign() {
        for (int b = -128; b <= 127; b++) {
            boolean depth = b >= '0' && b <= '5';
            Probe.says(10, "a sign, a figure that is none such, as the second CELL");
            signAt("1?=00", 1, b, depth ? Probe.NONE : 1);
            Probe.says(10, "a sign, a figure that is none such, as the first CELL of a line");
            signAt("12/?2=00", 3, b, depth ? Probe.NONE : 3);
            Probe.says(10, "a sign, a figure that is none such, behind a line of two, the first one");
            signAt("12?", 2, b, depth || b == '/' || b == '=' ? 3 : 2);
            Probe.says(10, "a sign, a figure that is none such, behind a line of two, the second one");
            signAt("12/12?", 5, b, b == '/' || b == '=' ? 6 : 5);
            Probe.says(10, "a sign, a figure that is none such, behind the fourth line");
            signAt("12/12/12/12?00", 11, b, b == '=' ? Probe.NONE : 11);
            Probe.says(10, "a figure that is none such, as a GARDEN");
            signAt("12=?0", 3, b, b >= '0' && b <= '3' ? Probe.NONE : 3);
            Probe.says(10, "a sign that is none such, as a LAW");
            signAt("12=00?", 5, b, b == ' ' || b > 0 && "prsbtd".indexOf(b) >= 0 ? Probe.NONE : 5);
            Probe.says(10, "anything else behind blanks behind the LAWS");
            signAt("12=00p ?", 7, b, b == ' ' ? Probe.NONE : 7);
            Probe.says(10, "blanks, and nothing else, ahead");
            signAt("?12=00", 0, b, b == ' ' ? Probe.NONE : depth ? 6 : 0);
        }
    }

    private static void signAt(String signs, int i, int b, int want) {
        new Probe().write(0, signs).does("put(0, " + i + ", " + b + ")").gives("fault(0)", want);
    }

    private static void fullTexts() {
        Probe.says(10, "a TEXT of 60 bytes, full");
        String largest = "5555/5555/5555/5555=3333tttttt";
        fault(" ".repeat(30) + largest, Probe.NONE);
        fault(largest + " ".repeat(30), Probe.NONE);
        fault(" ".repeat(15) + largest + " ".repeat(15), Probe.NONE);
        fault(largest + " ".repeat(29) + "t", 59);
        fault(" ".repeat(29) + largest + "t", 59);
        fault(" ".repeat(59) + "5", 60);
        fault(" ".repeat(59) + "6", 59);
        fault(" ".repeat(31) + "5555/5555/5555/5555=3333ttttt", Probe.NONE);
        Probe.says(10, "what was in a TEXT that was longer does not matter");
        new Probe().write(0, "12=00pppppp").gives("text(0, 2)", 2).does("put(0, 0, 49)", "put(0, 1, 49)")
                .gives("fault(0)", 2);
    }

    private static void faultRefused() {
        Probe.says(10, "NOTHING");
        Probe p = new Probe().write(0, "12=00").finds(Probe.NOTHING, "fault(1)", "fault(2)", "fault(3)");
        Probe.says(10, "BAD");
        p.bad("fault(-1)", "fault(4)", "fault(LEAST)", "fault(MOST)");
        Probe.says(10, "fault() changes nothing");
        Probe on = Probe.on("12=01p").does("dig(0)", "image(0)").write(1, "34=22rr").write(2, "34=22x");
        long before = on.digest();
        on.gives("fault(1)", Probe.NONE).gives("fault(2)", 5).gives("fault(0)", Probe.NONE).digestIs(before);
        on.gives("law(0)", 0).gives("undo(0)", 1);
    }

    private static void ground() {
        Probe.says(11, "how many CELLS: 2 at least, 16 at most");
        new Probe().write(0, "00=00").gives("ground(0)", 2).gives("count(0)", 2).gives("count(1)", 2);
        new Probe().write(3, "0000/0000/0000/0000=0000").gives("ground(3)", 16).gives("count(0)", 16).gives("count(1)", 4);
        new Probe().write(0, "00/00/00/00=00").gives("ground(0)", 8).gives("count(1)", 2);
        new Probe().write(0, "0000=0000").gives("ground(0)", 4).gives("count(1)", 4);
        new Probe().write(0, "000/000/000=000").gives("ground(0)", 9).gives("count(1)", 3);
        Probe.says(11, "no LAWS, 6 LAWS");
        Probe.on("00=00").gives("count(5)", 0).bad("law(0)");
        Probe.on("00=00tttttt").gives("count(5)", 6).gives("count(6)", 6).gives("law(5)", 4).bad("law(6)");
        Probe.says(11, "the CART empty");
        Probe.on("11=00").gives("count(3)", 0).state("fill(0)");
        Probe.says(11, "a GROUND stays as its TEXT was when it was taken");
        Probe.on("12=01p").does("put(0, 0, 53)", "put(0, 5, 114)").tells("cell(0, 0)", 1).gives("law(0)", 0)
                .does("text(0, 0)").tells("cell(1, 0)", 2).tells("cell(1, 1)", 1);
    }

    private static void groundAnew() {
        Probe.says(11, "anew: the CART empty, no DEEDS");
        Probe p = Probe.on("12/03=01prt").lays(0, 3, 0, 0).does("dig(0)", "dig(3)", "image(0)", "image(1)", "image(2)");
        p.does("share(0, 1)", "at(0, 0)", "tear(5)").gives("count(3)", 2).gives("count(4)", 2).gives("count(9)", 3);
        p.gives("ground(0)", 4).gives("count(3)", 0).gives("count(4)", 0).gives("undo(0)", 0).bad("undo(1)");
        p.tells("cell(0, 0)", 1).tells("cell(3, 0)", 3);
        Probe.says(11, "anew: IMAGES go");
        p.gives("count(9)", 0).finds(Probe.NOTHING, "on(0)", "on(1)", "on(2)", "shovels(0)", "same(0, 0, 0, 0)");
        p.none("day(0)");
        Probe.says(11, "anew: another number of CELLS, columns, LAWS, fewer, too");
        p = Probe.on("1111/1111/1111/1111=0123prsbtd").write(1, "01=33d");
        p.gives("ground(1)", 2).gives("count(0)", 2).gives("count(1)", 2).gives("count(2)", 1).gives("count(5)", 1);
        p.gives("count(6)", 0).gives("law(0)", 5).bad("law(1)", "cell(2, 0)", "hole(1, 0)", "dig(2)");
        p.tells("hole(0, 0)", 2).tells("hole(0, 4)", 3).gives("mark(0, 3)", 1);
        p.gives("ground(0)", 16).gives("count(2)", 1).tells("hole(0, 0)", 65535).tells("cell(15, 1)", 3);
        Probe.says(11, "anew: the same CELLS are dug, but beside others");
        p = Probe.on("11/00/11=00").gives("count(2)", 2).write(1, "110/011=000").gives("ground(1)", 6);
        p.gives("count(2)", 1).tells("hole(0, 0)", 0b110011).gives("ground(0)", 6).gives("count(2)", 2);
        Probe.says(11, "anew: no HOLE, where there were some; some, where there was none");
        p = Probe.on("1010=0000").gives("count(2)", 2).write(1, "0000=0000").gives("ground(1)", 4).gives("count(2)", 0);
        p.bad("hole(0, 0)").tells("cell(0, 2)", Probe.NONE).gives("ground(0)", 4).gives("count(2)", 2).tells("hole(1, 0)", 4);
        Probe.says(11, "anew: no LAWS, where there were some");
        p = Probe.on("10=00tr").does("image(0)").write(1, "10=00").gives("ground(1)", 2).gives("count(5)", 0);
        p.gives("count(6)", 0).bad("law(0)", "mark(0, 1)").does("image(0)").gives("fair(0)", 0);
        Probe.says(11, "anew: ROWS, TEXTS, what was told stay");
        p = Probe.on("12=01").lays(0, 9).does("at(0, 0)", "share(0, 1)", "at(1, 0)").gives("ground(0)", 2);
        p.gives("asked()", 9).gives("upper()", 2).gives("lower()", 3).gives("finding()", 1).gives("findings(1)", 1);
        p.gives("count(7)", 1).gives("count(8)", 1).rowIs(0, 9);
    }

    private static void groundRefused() {
        Probe.says(11, "STATE: a FAULT");
        Probe p = Probe.on("12/03=01prt").does("dig(0)", "dig(3)", "image(1)", "dig(2)");
        p.write(1, "12/03=01prx").write(2, "");
        p.state("ground(1)", "ground(2)").gives("undo(0)", 3).gives("on(1)", 1).gives("count(3)", 2);
        Probe.says(11, "NOTHING");
        p.finds(Probe.NOTHING, "ground(3)");
        Probe.says(11, "BAD");
        p.bad("ground(-1)", "ground(4)", "ground(LEAST)", "ground(MOST)");
        Probe.says(11, "where it is refused, there are no CELLS still");
        new Probe().write(0, "12=0").state("ground(0)", "image(0)", "rain(1, 1)").gives("count(0)", 0).bad("cell(0, 0)");
    }

    private static void cell() {
        Probe.says(12, "CELLS by their numbers, line by line from the first on");
        Probe p = Probe.on("0123/4500/1000/0002=3210");
        int[] depths = {0, 1, 2, 3, 4, 5, 0, 0, 1, 0, 0, 0, 0, 0, 0, 2};
        for (int c = 0; c < 16; c++) {
            p.tells("cell(" + c + ", 0)", depths[c]).tells("cell(" + c + ", 1)", 3 - c % 4);
        }
        Probe.says(12, "of which HOLE it is (NONE: none)");
        p.tells("cell(0, 2)", Probe.NONE).tells("cell(1, 2)", 0).tells("cell(8, 2)", 0).tells("cell(15, 2)", 1);
        p.tells("cell(14, 2)", Probe.NONE).tells("cell(3, 2)", 0);
        Probe.says(12, "BAD: no such CELL");
        p.bad("cell(-1, 0)", "cell(16, 0)", "cell(LEAST, 0)", "cell(MOST, 0)", "cell(32, 2)");
        Probe.says(12, "BAD: what is none of 0 .. 2");
        p.bad("cell(0, -1)", "cell(0, 3)", "cell(0, LEAST)", "cell(0, MOST)", "cell(16, 3)");
        Probe.says(12, "BAD: as many CELLS as there are, no more");
        Probe.on("12=03").tells("cell(1, 0)", 2).tells("cell(1, 1)", 3).bad("cell(2, 0)", "cell(4, 1)", "cell(15, 2)");
    }

    private static void law() {
        Probe.says(13, "the KIND of a LAW, by its letter");
        Probe p = Probe.on("00=00prsbtd");
        for (int k = 0; k < 6; k++) {
            p.gives("law(" + k + ")", k);
        }
        Probe.says(13, "BAD");
        p.bad("law(-1)", "law(6)", "law(LEAST)", "law(MOST)");
        Probe.says(13, "BAD: as many LAWS as there are, as they come, no more");
        Probe.on("00=00dd").gives("law(0)", 5).gives("law(1)", 5).bad("law(2)", "law(5)");
        Probe.on("00=00").bad("law(0)");
        new Probe().bad("law(0)");
    }

    private static void markUnlike() {
        Probe.says(14, "UNLIKE: a LAW that is not of a KIND");
        String letters = "prsbtd";
        for (int k = 0; k < 6; k++) {
            Probe p = Probe.on("12/00=00prsbtd");
            for (int kind = 1; kind < 6; kind++) {
                String call = "mark(" + k + ", " + kind + ")";
                if (IS[k].indexOf(letters.charAt(kind)) < 0) {
                    p.finds(Probe.UNLIKE, call);
                } else {
                    int[] marks = {0, 2, 0, 3, 0, 2};
                    p.gives(call, marks[kind]);
                }
            }
        }
    }

    private static void markRefused() {
        Probe p = Probe.on("12/00=00ptd");
        Probe.says(14, "BAD: also KIND 0, though each LAW is a PLACE; ahead of UNLIKE");
        p.bad("mark(0, 0)", "mark(1, 0)", "mark(2, 0)");
        Probe.says(14, "BAD: a KIND that is none");
        p.bad("mark(0, -1)", "mark(0, 6)", "mark(1, LEAST)", "mark(1, MOST)", "mark(2, 6)");
        Probe.says(14, "BAD: no such LAW");
        p.bad("mark(-1, 1)", "mark(3, 1)", "mark(LEAST, 1)", "mark(MOST, 1)", "mark(3, 0)");
        p.gives("findings(3)", 0).finds(Probe.UNLIKE, "mark(0, 1)", "mark(1, 3)", "mark(2, 4)");
        Probe.says(14, "mark() does not tell by asked()");
        p.gives("mark(2, 3)", 3).gives("asked()", 0);
    }

    private static void markAtEdges() {
        Probe.says(14, "no HOLE");
        Probe.on("00/00=00td").gives("mark(0, 1)", 0).gives("mark(0, 2)", 0).gives("mark(0, 4)", 0)
                .gives("mark(1, 3)", 0).gives("mark(1, 5)", 0);
        Probe.says(14, "all CELLS as deep as can be");
        Probe.on("5555/5555/5555/5555=0000tds").gives("mark(0, 1)", 16).gives("mark(0, 2)", 0).gives("mark(0, 4)", 0)
                .gives("mark(1, 3)", 80).gives("mark(1, 5)", 5).gives("mark(2, 2)", 0);
        Probe.says(14, "as many HOLES as can be: 28 pairs");
        Probe.on("1020/0304/5010/0203=0000tds").gives("mark(0, 1)", 1).gives("mark(0, 2)", 28).gives("mark(0, 4)", 0)
                .gives("mark(2, 2)", 28).gives("mark(1, 3)", 21).gives("mark(1, 5)", 5);
        Probe.says(14, "by what it is: a TURNED one as TURNED");
        Probe.on("1101/0001/1100/0000=0000ts").gives("mark(0, 2)", 3).gives("mark(1, 2)", 1).gives("mark(0, 4)", 2)
                .finds(Probe.UNLIKE, "mark(1, 4)");
        Probe.says(14, "not mirrored");
        Probe.on("1100/1011/1001=0000ts").gives("count(2)", 2).gives("mark(0, 2)", 0).gives("mark(0, 4)", 0);
        Probe.on("1101/1001/1011=0000ts").gives("count(2)", 2).gives("mark(0, 2)", 1).gives("mark(0, 4)", 1)
                .gives("mark(1, 2)", 0);
        Probe.says(14, "of now");
        Probe.on("10/00/10=00s").gives("mark(0, 2)", 1).does("dig(2)").gives("mark(0, 2)", 0).gives("mark(0, 1)", 3)
                .does("undo(0)").gives("mark(0, 2)", 1);
    }

    private static void hole() {
        Probe.says(15, "one CELL, DEPTH 1");
        Probe p = Probe.on("10/00=20").tells("hole(0, 0)", 1).tells("hole(0, 1)", 1).tells("hole(0, 2)", 1);
        p.tells("hole(0, 3)", 1).tells("hole(0, 4)", 2);
        Probe.says(15, "all 16 CELLS, DEPTH 5");
        p = Probe.on("5555/5555/5555/5555=3333").tells("hole(0, 0)", 65535).tells("hole(0, 1)", 16);
        p.tells("hole(0, 2)", 80).tells("hole(0, 3)", 5).tells("hole(0, 4)", 3);
        Probe.says(15, "BAD: no such HOLE");
        p.bad("hole(-1, 0)", "hole(1, 0)", "hole(LEAST, 0)", "hole(MOST, 0)");
        Probe.on("00/00=00").bad("hole(0, 0)", "hole(0, 4)");
        Probe.on("1010/0101/1010/0101=0123").tells("hole(7, 0)", 1 << 15).tells("hole(7, 4)", 3).bad("hole(8, 0)");
        Probe.says(15, "BAD: what is none of 0 .. 4");
        p.bad("hole(0, -1)", "hole(0, 5)", "hole(0, LEAST)", "hole(0, MOST)", "hole(1, 5)");
        Probe.says(15, "of whose GARDEN most of its CELLS are");
        Probe.on("1111=0111").tells("hole(0, 4)", 1);
        Probe.on("5111=0333").tells("hole(0, 4)", 3);
        Probe.on("111/100/100=301").tells("hole(0, 4)", 3);
        Probe.says(15, "of alike ones the least");
        Probe.on("1111=3210").tells("hole(0, 4)", 0);
        Probe.on("1111=3322").tells("hole(0, 4)", 2);
        Probe.on("11=31").tells("hole(0, 4)", 1);
        Probe.on("0110=0213").tells("hole(0, 4)", 1);
        Probe.says(15, "BOTTOM: the greatest DEPTH, the first, the last CELL's, too");
        Probe.on("512=000").tells("hole(0, 3)", 5).tells("hole(0, 2)", 8);
        Probe.on("125=000").tells("hole(0, 3)", 5);
    }

    private static void holesHang() {
        Probe.says(15, "CELLS with a side in common are beside one another");
        Probe.on("10/10=00").gives("count(2)", 1);
        Probe.on("11/00=00").gives("count(2)", 1);
        Probe.says(15, "a corner in common is none");
        Probe.on("10/01=00").gives("count(2)", 2).tells("hole(0, 0)", 1).tells("hole(1, 0)", 8);
        Probe.on("01/10=00").gives("count(2)", 2).tells("hole(0, 0)", 2).tells("hole(1, 0)", 4);
        Probe.says(15, "the last CELL of a line and the first one of the next are not beside one another");
        Probe.on("0001/1000=0000").gives("count(2)", 2).tells("hole(1, 0)", 16);
        Probe.on("01/10/01/10=00").gives("count(2)", 4);
        Probe.says(15, "one behind the other");
        Probe.on("1111/0001/1111/1000=0000").gives("count(2)", 1).tells("hole(0, 1)", 10);
        Probe.on("1101/0101/0111/0000=0000").gives("count(2)", 1).tells("hole(0, 0)", 0b111010101011);
        Probe.says(15, "HOLES by their least CELLS");
        Probe.on("0010/1110/0000/1001=0000").tells("hole(0, 0)", 0b1110100).tells("hole(1, 0)", 1 << 12)
                .tells("hole(2, 0)", 1 << 15);
        Probe.on("0100/1000=0000").tells("hole(0, 0)", 2).tells("hole(1, 0)", 16);
        Probe.on("0110/1001=0000").tells("hole(0, 0)", 6).tells("hole(1, 0)", 16).tells("hole(2, 0)", 128);
    }
}
