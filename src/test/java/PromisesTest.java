/** Each promise of the document by itself: ordinary inputs, the edges it names, wrong inputs. */
public final class PromisesTest {
    private static final int BAD = -1, FULL = -2, FINDING = -3, STATE = -4, NONE = -9;
    private static final int NOTHING = 1, BEYOND = 2, UNLIKE = 3, NOUGHT = 4, SIZE = 5;
    private static final int LEAST = Integer.MIN_VALUE, MOST = Integer.MAX_VALUE;

    private static int wrong;
    private static int promise;

    public static void main(String[] args) {
        newObject();
        rows();
        copies();
        means();
        texts();
        faults();
        groundsTaken();
        cellsAndLaws();
        marks();
        holes();
        digs();
        fills();
        rains();
        undoing();
        images();
        thens();
        sames();
        doubtsAndFairness();
        shovelsAndSuspects();
        carrying();
        joining();
        parting();
        stealing();
        shares();
        heaps();
        lies();
        days();
        groundsOfWitnesses();
        odds();
        gone();
        askedStays();
        uppersAndLowers();
        counts();
        findings();
        digests();
        System.out.println(wrong == 0 ? "all promises are kept" : wrong + " answers are not as due");
        if (wrong != 0) {
            System.exit(1);
        }
    }

    private static void due(String call, long got, long want) {
        if (got != want) {
            wrong++;
            System.out.println("promise " + promise + ": " + call + " answered " + got + ", due is " + want);
        }
    }

    /** A call that tells by asked(). */
    private static void told(HoleMoved x, String call, int answer, int want) {
        due(call, answer, 1);
        due(call + " tells", x.asked(), want);
    }

    /** A call that tells a fraction. */
    private static void parts(HoleMoved x, String call, int answer, long upper, long lower) {
        due(call, answer, 1);
        due(call + " upper", x.upper(), upper);
        due(call + " lower", x.lower(), lower);
    }

    /** A call that was refused with a FINDING, and changed nothing but this. */
    private static void found(HoleMoved x, String call, int answer, int finding) {
        due(call, answer, FINDING);
        due(call + " finding", x.finding(), finding);
    }

    private static void write(HoleMoved x, int t, String s) {
        x.text(t, s.length());
        for (int i = 0; i < s.length(); i++) {
            x.put(t, i, s.charAt(i));
        }
    }

    private static HoleMoved on(String ground) {
        HoleMoved x = new HoleMoved();
        write(x, 0, ground);
        due("ground " + ground, x.ground(0) > 0 ? 1 : 0, 1);
        return x;
    }

    private static void fillRow(HoleMoved x, int r, int... values) {
        x.row(r, values.length);
        for (int i = 0; i < values.length; i++) {
            x.lay(r, i, values[i]);
        }
    }

    private static void rowIs(HoleMoved x, int r, int... values) {
        for (int i = 0; i < values.length; i++) {
            told(x, "at(" + r + ", " + i + ")", x.at(r, i), values[i]);
        }
        due("behind a row's end", x.at(r, values.length), FINDING);
        due("so it is beyond", x.finding(), BEYOND);
    }

    private static void newObject() {
        promise = 1;
        HoleMoved x = new HoleMoved();
        for (int what = 0; what < 10; what++) {
            due("count(" + what + ")", x.count(what), 0);
        }
        for (int r = 0; r < 6; r++) {
            found(x, "tear(" + r + ")", x.tear(r), NOTHING);
        }
        for (int t = 0; t < 4; t++) {
            found(x, "fault(" + t + ")", x.fault(t), NOTHING);
        }
        for (int k = 0; k < 3; k++) {
            found(x, "on(" + k + ")", x.on(k), NOTHING);
            due("image(" + k + ")", x.image(k), STATE);
        }
        due("cell(0, 0)", x.cell(0, 0), BAD);
        due("law(0)", x.law(0), BAD);
        due("hole(0, 0)", x.hole(0, 0), BAD);
        due("rain(1, 1)", x.rain(1, 1), STATE);
        due("undo(0)", x.undo(0), 0);
        due("asked()", x.asked(), 0);
        due("upper()", x.upper(), 0);
        due("lower()", x.lower(), 1);
    }

    private static void rows() {
        promise = 2;
        HoleMoved x = new HoleMoved();
        due("row(0, 3)", x.row(0, 3), 3);
        due("row(5, 40)", x.row(5, 40), 40);
        due("row(1, 0)", x.row(1, 0), 0);
        due("count(7)", x.count(7), 3);
        due("row(6, 1)", x.row(6, 1), BAD);
        due("row(-1, 1)", x.row(-1, 1), BAD);
        due("row(0, 41)", x.row(0, 41), BAD);
        due("row(0, MOST)", x.row(0, MOST), BAD);
        due("row(6, -1)", x.row(6, -1), BAD);
        due("finding()", x.finding(), 0);
        found(x, "row(0, -1)", x.row(0, -1), SIZE);
        found(x, "row(0, LEAST)", x.row(0, LEAST), SIZE);
        rowIs(x, 0, 0, 0, 0);

        promise = 3;
        told(x, "lay(0, 1, 7)", x.lay(0, 1, 7), 0);
        told(x, "lay(0, 1, LEAST)", x.lay(0, 1, LEAST), 7);
        told(x, "lay(0, 0, MOST)", x.lay(0, 0, MOST), 0);
        rowIs(x, 0, MOST, LEAST, 0);
        due("lay(6, 0, 0)", x.lay(6, 0, 0), BAD);
        due("lay(-1, 0, 0)", x.lay(-1, 0, 0), BAD);
        found(x, "lay(2, 0, 0)", x.lay(2, 0, 0), NOTHING);
        found(x, "lay(0, 3, 5)", x.lay(0, 3, 5), BEYOND);
        found(x, "lay(0, -1, 5)", x.lay(0, -1, 5), BEYOND);
        found(x, "lay(1, 0, 5)", x.lay(1, 0, 5), BEYOND);
        due("row(0, 3) anew", x.row(0, 3), 3);
        rowIs(x, 0, 0, 0, 0);

        promise = 4;
        x.lay(5, 39, -4);
        told(x, "at(5, 39)", x.at(5, 39), -4);
        due("at(6, 0)", x.at(6, 0), BAD);
        due("at(LEAST, 0)", x.at(LEAST, 0), BAD);
        found(x, "at(2, 99)", x.at(2, 99), NOTHING);
        found(x, "at(5, 40)", x.at(5, 40), BEYOND);
        found(x, "at(5, LEAST)", x.at(5, LEAST), BEYOND);
        due("asked()", x.asked(), -4);

        promise = 5;
        due("tear(0)", x.tear(0), 1);
        found(x, "tear(0)", x.tear(0), NOTHING);
        found(x, "at(0, 0)", x.at(0, 0), NOTHING);
        due("tear(6)", x.tear(6), BAD);
        due("tear(-1)", x.tear(-1), BAD);
        due("count(7)", x.count(7), 2);
        due("row(0, 2)", x.row(0, 2), 2);
        rowIs(x, 0, 0, 0);
    }

    private static void copies() {
        promise = 6;
        HoleMoved x = new HoleMoved();
        fillRow(x, 0, 1, 2, 3, 4, 5);
        fillRow(x, 1, 9, 8, 7);
        due("copy(0, 1, 1, 0, 2)", x.copy(0, 1, 1, 0, 2), 1);
        rowIs(x, 1, 2, 3, 7);
        due("copy ahead", x.copy(0, 0, 0, 1, 4), 1);
        rowIs(x, 0, 1, 1, 2, 3, 4);
        due("copy back", x.copy(0, 1, 0, 0, 4), 1);
        rowIs(x, 0, 1, 2, 3, 4, 4);
        due("copy of none at the ends", x.copy(0, 5, 1, 3, 0), 1);
        found(x, "none behind the end", x.copy(0, 6, 1, 0, 0), BEYOND);
        found(x, "none to behind the end", x.copy(0, 0, 1, 4, 0), BEYOND);
        found(x, "none ahead of the first", x.copy(0, -1, 1, 0, 0), BEYOND);
        found(x, "none to ahead of the first", x.copy(0, 0, 1, -1, 0), BEYOND);
        found(x, "too many there", x.copy(0, 3, 1, 0, 3), BEYOND);
        found(x, "too many for it", x.copy(0, 0, 1, 1, 3), BEYOND);
        found(x, "far too many", x.copy(0, 1, 1, 1, MOST), BEYOND);
        found(x, "from far off", x.copy(0, MOST, 1, 0, MOST), BEYOND);
        found(x, "a row that is missing", x.copy(2, 0, 1, 0, 0), NOTHING);
        found(x, "to a row that is missing", x.copy(0, 9, 2, 0, 1), NOTHING);
        found(x, "fewer than none", x.copy(2, 0, 3, 0, -1), SIZE);
        found(x, "fewest", x.copy(0, 0, 1, 0, LEAST), SIZE);
        due("no such row", x.copy(6, 0, 0, 0, -1), BAD);
        due("to no such row", x.copy(0, 0, -1, 0, -1), BAD);
        rowIs(x, 0, 1, 2, 3, 4, 4);
        rowIs(x, 1, 2, 3, 7);
    }

    private static void means() {
        promise = 7;
        HoleMoved x = new HoleMoved();
        fillRow(x, 0, 1, 2, 5);
        told(x, "mean of 8 by 3", x.mean(0), 2);
        fillRow(x, 0, -1, -2, -5);
        told(x, "mean of -8 by 3", x.mean(0), -2);
        fillRow(x, 0, MOST, MOST, MOST);
        told(x, "mean of the greatest", x.mean(0), MOST);
        fillRow(x, 0, LEAST, LEAST);
        told(x, "mean of the least", x.mean(0), LEAST);
        x.row(1, 0);
        found(x, "mean of none", x.mean(1), NOUGHT);
        found(x, "mean of what is missing", x.mean(2), NOTHING);
        due("mean(6)", x.mean(6), BAD);
        due("mean(-1)", x.mean(-1), BAD);
        due("asked()", x.asked(), LEAST);
    }

    private static void texts() {
        promise = 8;
        HoleMoved x = new HoleMoved();
        due("text(0, 2)", x.text(0, 2), 2);
        due("text(3, 60)", x.text(3, 60), 60);
        due("text(1, 0)", x.text(1, 0), 0);
        due("count(8)", x.count(8), 3);
        due("text(4, 1)", x.text(4, 1), BAD);
        due("text(-1, 1)", x.text(-1, 1), BAD);
        due("text(0, 61)", x.text(0, 61), BAD);
        due("text(4, -1)", x.text(4, -1), BAD);
        found(x, "text(0, -1)", x.text(0, -1), SIZE);

        promise = 9;
        due("put(0, 0, 65)", x.put(0, 0, 65), 1032);
        due("put(0, 0, 300)", x.put(0, 0, 300), 1065);
        due("put(0, 0, 128)", x.put(0, 0, 128), 1044);
        due("put(0, 0, -129)", x.put(0, 0, -129), 872);
        due("put(0, 0, LEAST)", x.put(0, 0, LEAST), 1127);
        due("put(0, 0, -1)", x.put(0, 0, -1), 1000);
        due("put(0, 0, 0)", x.put(0, 0, 0), 999);
        due("put(3, 59, 1)", x.put(3, 59, 1), 1032);
        due("put(4, 0, 0)", x.put(4, 0, 0), BAD);
        due("put(-1, 0, 0)", x.put(-1, 0, 0), BAD);
        found(x, "put(2, 0, 0)", x.put(2, 0, 0), NOTHING);
        found(x, "put(0, 2, 0)", x.put(0, 2, 0), BEYOND);
        found(x, "put(0, -1, 0)", x.put(0, -1, 0), BEYOND);
        found(x, "put(1, 0, 0)", x.put(1, 0, 0), BEYOND);
        x.put(0, 1, 70);
        due("text(0, 2) anew", x.text(0, 2), 2);
        due("a blank again", x.put(0, 1, 70), 1032);
        due("asked()", x.asked(), 0);
    }

    private static void faultIs(String s, int want) {
        HoleMoved x = new HoleMoved();
        write(x, 2, s);
        due("fault of \"" + s + "\"", x.fault(2), want);
        int due = want == NONE ? s.substring(0, s.indexOf('=')).replace(" ", "").replace("/", "").length() : STATE;
        due("ground of \"" + s + "\"", x.ground(2), due);
        due("finding()", x.finding(), 0);
    }

    private static void faults() {
        promise = 10;
        faultIs("12=00", NONE);
        faultIs("  12/05=03prsbtd  ", NONE);
        faultIs("1234/1234/1234/1234=0123pppppp", NONE);
        faultIs("000=000", NONE);
        faultIs("000=000 ", NONE);
        faultIs("", 0);
        faultIs("   ", 3);
        faultIs("1", 1);
        faultIs("12", 2);
        faultIs("12/", 3);
        faultIs("12/3", 4);
        faultIs("12=", 3);
        faultIs("12=0", 4);
        faultIs("16=00", 1);
        faultIs("1=0", 1);
        faultIs("1/2=0", 1);
        faultIs("12345=0000", 4);
        faultIs("12340=0000", 4);
        faultIs("12/345=00", 5);
        faultIs("123/45=000", 6);
        faultIs("12/=00", 3);
        faultIs("/12=00", 0);
        faultIs("=00", 0);
        faultIs("12/12/12/12/12=00", 11);
        faultIs("12/12/12/12/", 11);
        faultIs("12=04", 4);
        faultIs("12=000", 5);
        faultIs("12=0p", 4);
        faultIs("12=00P", 5);
        faultIs("12=00x", 5);
        faultIs("12=00pppppp", NONE);
        faultIs("12=00ppppppp", 11);
        faultIs("12=00ppppppx", 11);
        faultIs("12=00pppppp p", 12);
        faultIs("12=00  p", 7);
        faultIs("12=00p r", 7);
        faultIs(" 12 =00", 3);
        faultIs("12= 00", 3);
        faultIs("1 2=00", 1);
        faultIs("12/ 12=00", 3);
        faultIs("12=0 0", 4);
        faultIs("12==00", 3);
        HoleMoved x = new HoleMoved();
        write(x, 0, "12=00p");
        x.put(0, 5, 112 - 256);
        due("a byte is cut ahead", x.fault(0), NONE);
        x.put(0, 5, -112);
        due("a byte below 0", x.fault(0), 5);
        due("fault(4)", x.fault(4), BAD);
        due("fault(-1)", x.fault(-1), BAD);
        found(x, "fault(1)", x.fault(1), NOTHING);
    }

    private static void groundsTaken() {
        promise = 11;
        HoleMoved x = on("12/03=01pb");
        x.dig(0);
        x.image(0);
        x.image(1);
        x.image(2);
        long before = x.digest();
        due("ground(4)", x.ground(4), BAD);
        due("ground(-1)", x.ground(-1), BAD);
        found(x, "ground(3)", x.ground(3), NOTHING);
        due("nothing changed", x.digest(), before);
        write(x, 1, "12/03=01pbz");
        before = x.digest();
        due("ground of a FAULT", x.ground(1), STATE);
        due("nothing changed", x.digest(), before);
        write(x, 1, " 101/000/020=210dt ");
        due("ground anew", x.ground(1), 9);
        int[] counts = {9, 3, 3, 0, 0, 2, 1, 0, 2, 0};
        for (int what = 0; what < counts.length; what++) {
            due("count(" + what + ")", x.count(what), counts[what]);
        }
        for (int k = 0; k < 3; k++) {
            found(x, "images are gone", x.on(k), NOTHING);
        }
        told(x, "whose the first is now", x.cell(0, 1), 2);
        due("ground(0)", x.ground(0), 4);
        due("count(2)", x.count(2), 1);
        write(x, 1, "11=00");
        due("no laws", x.ground(1), 2);
        due("law(0)", x.law(0), BAD);
        due("count(5)", x.count(5), 0);
        write(x, 1, "111/100=000");
        x.ground(1);
        due("an L", x.count(2), 1);
        write(x, 1, "11/11/00=00");
        x.ground(1);
        due("the same CELLS by two columns", x.count(2), 1);
        write(x, 1, "110/011=000");
        x.ground(1);
        due("{0, 1, 4, 5} by three columns", x.count(2), 1);
        write(x, 1, "11/00/11=00");
        x.ground(1);
        due("{0, 1, 4, 5} by two columns", x.count(2), 2);
    }

    private static void cellsAndLaws() {
        promise = 12;
        HoleMoved x = on("105/010=302prsbtd");
        told(x, "cell(0, 0)", x.cell(0, 0), 1);
        told(x, "cell(2, 0)", x.cell(2, 0), 5);
        told(x, "cell(3, 0)", x.cell(3, 0), 0);
        told(x, "cell(0, 1)", x.cell(0, 1), 3);
        told(x, "cell(4, 1)", x.cell(4, 1), 0);
        told(x, "cell(5, 1)", x.cell(5, 1), 2);
        told(x, "cell(0, 2)", x.cell(0, 2), 0);
        told(x, "cell(2, 2)", x.cell(2, 2), 1);
        told(x, "cell(4, 2)", x.cell(4, 2), 2);
        told(x, "cell(1, 2)", x.cell(1, 2), NONE);
        due("cell(6, 0)", x.cell(6, 0), BAD);
        due("cell(-1, 0)", x.cell(-1, 0), BAD);
        due("cell(0, 3)", x.cell(0, 3), BAD);
        due("cell(0, -1)", x.cell(0, -1), BAD);
        due("asked()", x.asked(), NONE);

        promise = 13;
        for (int k = 0; k < 6; k++) {
            due("law(" + k + ")", x.law(k), k);
        }
        due("law(6)", x.law(6), BAD);
        due("law(-1)", x.law(-1), BAD);
        x = on("11=00dt");
        due("law(0)", x.law(0), 5);
        due("law(1)", x.law(1), 4);
        due("law(2)", x.law(2), BAD);
    }

    private static void marks() {
        promise = 14;
        // HOLES: {0, 1} lying, {3, 7} upright, {8, 9} lying, {15} alone.
        HoleMoved x = on("1203/0004/1100/0005=0123prsbtd");
        int[][] due = {
            {BAD, FINDING, FINDING, FINDING, FINDING, FINDING},
            {BAD, 2, FINDING, FINDING, FINDING, FINDING},
            {BAD, 2, 1, FINDING, FINDING, FINDING},
            {BAD, FINDING, FINDING, 17, FINDING, FINDING},
            {BAD, 2, 3, FINDING, 2, FINDING},
            {BAD, FINDING, FINDING, 17, FINDING, 5},
        };
        for (int law = 0; law < 6; law++) {
            for (int kind = 0; kind < 6; kind++) {
                due("mark(" + law + ", " + kind + ")", x.mark(law, kind), due[law][kind]);
            }
        }
        due("UNLIKE", x.finding(), UNLIKE);
        due("mark(0, -1)", x.mark(0, -1), BAD);
        due("mark(0, 6)", x.mark(0, 6), BAD);
        due("mark(6, 1)", x.mark(6, 1), BAD);
        due("mark(-1, 1)", x.mark(-1, 1), BAD);
        x = on("000/000=012td");
        due("largest of none", x.mark(0, 1), 0);
        due("pairs of none", x.mark(0, 2), 0);
        due("turned pairs of none", x.mark(0, 4), 0);
        due("volumes of none", x.mark(1, 3), 0);
        due("bottom of none", x.mark(1, 5), 0);
        // Mirrored, not turned.
        x = on("1001/1001/1111=0000t");
        due("one hole", x.mark(0, 1), 8);
        x = on("1011/1000/1101/0001=0000t");
        due("three holes", x.count(2), 3);
        x = on("1101/1001/1011=0000ts");
        due("an L turned by a half", x.mark(0, 4), 1);
        due("not by a shape", x.mark(1, 2), 0);
        x = on("1100/1011/1001=0000ts");
        due("holes", x.count(2), 2);
        due("an L mirrored", x.mark(0, 2), 0);
    }

    private static void holes() {
        promise = 15;
        // 0 4 0 / 3 1 0 / 0 0 2: {1, 3, 4}, {8}; gardens 2, 1, 0
        HoleMoved x = on("040/310/002=210");
        int[][] due = {{0b11010, 3, 8, 4, 1}, {256, 1, 2, 2, 0}};
        for (int i = 0; i < 2; i++) {
            for (int what = 0; what < 5; what++) {
                told(x, "hole(" + i + ", " + what + ")", x.hole(i, what), due[i][what]);
            }
        }
        due("hole(2, 0)", x.hole(2, 0), BAD);
        due("hole(-1, 0)", x.hole(-1, 0), BAD);
        due("hole(0, 5)", x.hole(0, 5), BAD);
        due("hole(0, -1)", x.hole(0, -1), BAD);
        due("asked()", x.asked(), 0);
        x = on("1111=3120");
        told(x, "of alike ones the least", x.hole(0, 4), 0);
        x = on("511=322");
        told(x, "by cells, not by depths", x.hole(0, 4), 2);
        x = on("0110=3113");
        told(x, "one line", x.hole(0, 0), 6);
        x = on("001/100=000");
        due("the last of a line is not beside the first of the next", x.count(2), 2);
        x = on("1010/0101/1010/0101=0000");
        due("eight holes", x.count(2), 8);
        told(x, "the last of eight", x.hole(7, 0), 1 << 15);
        x = on("1111/0001/1111/1000=0000");
        told(x, "a long one", x.hole(0, 1), 10);
    }

    private static void digs() {
        promise = 16;
        HoleMoved x = on("40/00=00");
        due("dig(0)", x.dig(0), 5);
        due("dig(0)", x.dig(0), STATE);
        due("dig(3)", x.dig(3), 1);
        due("count(2)", x.count(2), 2);
        due("count(3)", x.count(3), 2);
        due("count(4)", x.count(4), 2);
        due("dig(4)", x.dig(4), BAD);
        due("dig(-1)", x.dig(-1), BAD);
        for (int i = 0; i < 38; i++) {
            due("a deed", i % 2 == 0 ? x.dig(1) : x.fill(1), i % 2 == 0 ? 1 : 0);
        }
        due("count(4)", x.count(4), 40);
        long before = x.digest();
        due("FULL", x.dig(1), FULL);
        due("STATE ahead of FULL", x.dig(0), STATE);
        due("BAD ahead of FULL", x.dig(9), BAD);
        due("nothing changed", x.digest(), before);
    }

    private static void fills() {
        promise = 17;
        HoleMoved x = on("21/01=00");
        due("the CART is empty", x.fill(0), STATE);
        x.dig(1);
        x.dig(1);
        due("a CELL of 0", x.fill(2), STATE);
        due("fill(0)", x.fill(0), 1);
        due("fill(0)", x.fill(0), 0);
        due("the CART is empty again", x.fill(3), STATE);
        due("count(3)", x.count(3), 0);
        due("count(4)", x.count(4), 4);
        due("fill(4)", x.fill(4), BAD);
        due("fill(-1)", x.fill(-1), BAD);
        for (int i = 0; i < 36; i++) {
            due("rain(0, 1)", x.rain(0, 1), 1);
        }
        due("STATE ahead of FULL", x.fill(1), STATE);
        x.undo(39);
        x.dig(1);
        due("FULL", x.fill(1), FULL);
        due("a CELL of 0 ahead of FULL", x.fill(0), STATE);
        due("BAD ahead of FULL", x.fill(4), BAD);
    }

    private static void rains() {
        promise = 18;
        // The LOTS of 1: 48271, 182605794, 1291394886, 1914720637, which modulo 12 are 7, 6, 6, 1.
        HoleMoved x = on("1010/1001=0000");
        due("count(2)", x.count(2), 3);
        due("rain(7, 1)", x.rain(7, 1), 1);
        told(x, "hole(0, 0)", x.hole(0, 0), 1);
        due("no EARTH", x.count(3), 0);
        due("a DEED", x.count(4), 1);
        x.undo(0);
        due("rain(6, 1)", x.rain(6, 1), 2);
        told(x, "cell(7, 0)", x.cell(7, 0), 0);
        x.undo(0);
        due("rain(2, 1)", x.rain(2, 1), 2);
        x.undo(0);
        due("rain(1, 1)", x.rain(1, 1), 3);
        due("rain(0, 2147483646)", x.rain(0, 2147483646), 3);
        due("rain(12, 2147483646)", x.rain(12, 2147483646), 0);
        due("rain on level ground", x.rain(12, 5), 0);
        due("count(4)", x.count(4), 4);
        due("rain(13, 1)", x.rain(13, 1), BAD);
        due("rain(-1, 1)", x.rain(-1, 1), BAD);
        due("rain(1, 0)", x.rain(1, 0), BAD);
        due("rain(1, -1)", x.rain(1, -1), BAD);
        due("rain(1, 2147483647)", x.rain(1, 2147483647), BAD);
        for (int i = 0; i < 36; i++) {
            x.rain(0, 1);
        }
        due("FULL", x.rain(1, 1), FULL);
        due("BAD ahead of FULL", x.rain(13, 1), BAD);
        x = new HoleMoved();
        due("no CELLS", x.rain(1, 1), STATE);
        due("BAD ahead of STATE", x.rain(1, 0), BAD);
    }

    private static void undoing() {
        promise = 19;
        HoleMoved x = on("21/03=00");
        long first = x.digest();
        x.dig(2);
        long second = x.digest();
        x.fill(0);
        x.rain(9, 33);
        x.dig(3);
        due("undo(4)", x.undo(4), 0);
        due("undo(5)", x.undo(5), BAD);
        due("undo(-1)", x.undo(-1), BAD);
        due("undo(1)", x.undo(1), 3);
        due("as it was then", x.digest(), second);
        due("undo(0)", x.undo(0), 1);
        due("as it was first", x.digest(), first);
        due("undo(0)", x.undo(0), 0);
        due("undo(1)", x.undo(1), BAD);
        due("a deed behind", x.dig(0), 3);
        due("undo(0)", x.undo(0), 1);
        due("as it was first", x.digest(), first);
    }

    private static void images() {
        promise = 20;
        HoleMoved x = on("10/01=00");
        due("image(2)", x.image(2), 2);
        due("image(0)", x.image(0), 2);
        due("count(9)", x.count(9), 2);
        x.dig(1);
        due("image(0) anew", x.image(0), 1);
        due("count(9)", x.count(9), 2);
        due("image(3)", x.image(3), BAD);
        due("image(-1)", x.image(-1), BAD);
        due("no CELLS", new HoleMoved().image(0), STATE);
        due("BAD ahead of STATE", new HoleMoved().image(3), BAD);

        promise = 21;
        x.fill(0);
        x.dig(3);
        x.dig(3);
        due("on(0)", x.on(0), 1);
        due("the CART's EARTH", x.count(3), 1);
        due("no DEEDS", x.count(4), 0);
        told(x, "cell(3, 0)", x.cell(3, 0), 1);
        x.dig(3);
        due("on(2)", x.on(2), 2);
        due("the CART is empty", x.count(3), 0);
        due("an IMAGE stays", x.on(0), 1);
        due("undo(0)", x.undo(0), 0);
        due("on(3)", x.on(3), BAD);
        due("on(-1)", x.on(-1), BAD);
        found(x, "on(1)", x.on(1), NOTHING);
    }

    private static void thens() {
        promise = 22;
        HoleMoved x = on("12/00/03=10");
        x.image(1);
        x.dig(2);
        x.dig(4);
        due("count(2)", x.count(2), 1);
        int[][] due = {{3, 2, 3, 2, 0}, {32, 1, 3, 3, 0}};
        for (int i = 0; i < 2; i++) {
            for (int what = 0; what < 5; what++) {
                told(x, "then(1, " + i + ", " + what + ")", x.then(1, i, what), due[i][what]);
            }
        }
        due("then(3, 0, 0)", x.then(3, 0, 0), BAD);
        due("then(-1, 0, 0)", x.then(-1, 0, 0), BAD);
        due("then(1, 2, 0)", x.then(1, 2, 0), BAD);
        due("then(1, -1, 0)", x.then(1, -1, 0), BAD);
        due("then(1, 0, 5)", x.then(1, 0, 5), BAD);
        due("then(1, 0, -1)", x.then(1, 0, -1), BAD);
        due("then(0, 0, 5)", x.then(0, 0, 5), BAD);
        found(x, "then(0, 0, 0)", x.then(0, 0, 0), NOTHING);
        found(x, "NOTHING ahead of no such HOLE", x.then(0, 9, 0), NOTHING);
    }

    private static void sames() {
        promise = 23;
        // Of then {0, 1}, {6}; of now {3, 7}, {13}: 2 1 0 0 / 0 0 3 0 / .. and 0 0 0 2 / 0 0 0 1 / 0 0 0 0 / 0 3 0 0
        HoleMoved x = on("2100/0030/0000/0000=0123prsbtd");
        x.image(0);
        x.dig(3); x.dig(3); x.dig(7); x.dig(13); x.dig(13); x.dig(13);
        x.fill(0); x.fill(0); x.fill(1); x.fill(6); x.fill(6); x.fill(6);
        due("count(2)", x.count(2), 2);
        int[][] which = {{0, 0}, {0, 0}, {0, 2}, {3, 3}, {1, 2}, {1, 2}};
        for (int law = 0; law < 6; law++) {
            for (int i = 0; i < 2; i++) {
                due("which(" + law + ", 0, " + i + ")", x.which(law, 0, i), which[law][i]);
                for (int j = 0; j < 2; j++) {
                    due("same(" + law + ", 0, " + i + ", " + j + ")", x.same(law, 0, i, j), which[law][i] >> j & 1);
                }
            }
        }
        due("same(6, 0, 0, 0)", x.same(6, 0, 0, 0), BAD);
        due("same(-1, 0, 0, 0)", x.same(-1, 0, 0, 0), BAD);
        due("same(0, 3, 0, 0)", x.same(0, 3, 0, 0), BAD);
        due("same(0, -1, 0, 0)", x.same(0, -1, 0, 0), BAD);
        due("same(0, 0, 2, 0)", x.same(0, 0, 2, 0), BAD);
        due("same(0, 0, 0, 2)", x.same(0, 0, 0, 2), BAD);
        due("same(0, 0, -1, 0)", x.same(0, 0, -1, 0), BAD);
        due("same(0, 0, 0, -1)", x.same(0, 0, 0, -1), BAD);
        due("same(6, 1, 0, 0)", x.same(6, 1, 0, 0), BAD);
        found(x, "NOTHING ahead of HOLES", x.same(0, 1, 9, 9), NOTHING);

        promise = 24;
        due("which(6, 0, 0)", x.which(6, 0, 0), BAD);
        due("which(-1, 0, 0)", x.which(-1, 0, 0), BAD);
        due("which(0, 3, 0)", x.which(0, 3, 0), BAD);
        due("which(0, -1, 0)", x.which(0, -1, 0), BAD);
        due("which(0, 0, 2)", x.which(0, 0, 2), BAD);
        due("which(0, 0, -1)", x.which(0, 0, -1), BAD);
        found(x, "NOTHING ahead of HOLES", x.which(0, 2, 9), NOTHING);
        due("which(6, 2, 9)", x.which(6, 2, 9), BAD);

        promise = 23;
        x = on("20/01=00prsbtd");
        x.image(0);
        x.dig(1);
        due("PLACE, grown together", x.which(0, 0, 0), 1);
        due("PLACE, grown together", x.which(0, 0, 1), 1);
        due("RIM, grown together", x.which(1, 0, 0), 0);
        x.undo(0);
        x.dig(0);
        due("RIM of the same, deeper", x.which(1, 0, 0), 1);
        due("BULK of the same, deeper", x.which(3, 0, 0), 0);
        x = on("22/00/31=00bd");
        x.image(0);
        due("BULK of 2 2 and 3 1", x.which(0, 0, 0), 3);
        due("DEEP of 2 2 and 3 1", x.which(1, 0, 0), 1);
        // Three in a corner, mirrored, is the same turned; four as an L, mirrored, is not.
        x = on("1000/1000/1100=0000ts");
        x.image(0);
        x.dig(3); x.dig(7); x.dig(11); x.dig(2);
        x.fill(0); x.fill(4); x.fill(8); x.fill(9);
        due("an L turned by a half", x.same(0, 0, 0, 0), 1);
        due("an L pushed only", x.same(1, 0, 0, 0), 0);
        x.dig(10);
        x.fill(2);
        due("an L mirrored", x.same(0, 0, 0, 0), 0);
        for (int quarters = 1; quarters <= 3; quarters += 2) {
            x = on("1000/1000/1100=0000ts");
            x.image(0);
            // 1 1 1 / 1 and 0 0 1 / 1 1 1
            int[] to = quarters == 1 ? new int[] {0, 1, 2, 4} : new int[] {2, 4, 5, 6};
            int[] from = quarters == 1 ? new int[] {8, 9} : new int[] {0, 8, 9};
            for (int c : to) {
                x.dig(c);
            }
            for (int c : from) {
                x.fill(c);
            }
            if (quarters == 1) {
                x.fill(0);
                x.fill(4);
            } else {
                x.fill(4);
            }
            due("an L turned by quarters: " + quarters, x.same(0, 0, 0, 0), 1);
            due("an L pushed only", x.same(1, 0, 0, 0), 0);
        }
        // Turned, it would not even lie on the ground.
        x = on("111/111/000=000t");
        x.image(0);
        x.dig(7); x.dig(6);
        x.fill(2); x.fill(5);
        due("two by three upright", x.same(0, 0, 0, 0), 1);
        x = on("1110=0000st");
        x.image(0);
        x.dig(3);
        x.fill(0);
        due("pushed by one", x.which(0, 0, 0), 1);
    }

    private static void doubtsAndFairness() {
        promise = 25;
        HoleMoved x = on("1010/0000/1010=0000prsbtd");
        x.image(0);
        x.dig(1);
        // Of now: {0, 1, 2}, {8}, {10}.
        int[][] doubt = {{0, 0}, {0, 2}, {4, 0}, {4, 0}, {4, 0}, {4, 0}};
        for (int law = 0; law < 6; law++) {
            due("doubt(" + law + ", 0)", x.doubt(law, 0), doubt[law][0]);
            due("as none", x.asked(), doubt[law][1]);
        }
        due("doubt(6, 0)", x.doubt(6, 0), BAD);
        due("doubt(-1, 0)", x.doubt(-1, 0), BAD);
        due("doubt(0, 3)", x.doubt(0, 3), BAD);
        due("doubt(0, -1)", x.doubt(0, -1), BAD);
        found(x, "doubt(0, 1)", x.doubt(0, 1), NOTHING);
        due("doubt(6, 1)", x.doubt(6, 1), BAD);

        promise = 26;
        due("two came to be one", x.fair(0), 0);
        x.undo(0);
        due("fair by PLACE and RIM alone", x.fair(0), 3);
        x.image(1);
        x.dig(5);
        due("one more of now", x.fair(0), 0);
        x.image(2);
        x.undo(0);
        due("one less of now", x.fair(2), 0);
        due("fair(3)", x.fair(3), BAD);
        due("fair(-1)", x.fair(-1), BAD);
        x = on("00=00prsbtd");
        x.image(0);
        due("no HOLES: by all", x.fair(0), 63);
        found(x, "fair(1)", x.fair(1), NOTHING);
        x.dig(0);
        due("none of then, one of now", x.fair(0), 0);
        x = on("100/002=000psbd");
        x.image(0);
        due("one each", x.fair(0), 13);
    }

    private static void shovelsAndSuspects() {
        promise = 27;
        HoleMoved x = on("21/03=00");
        x.image(0);
        x.dig(2);
        x.dig(2);
        x.fill(3);
        due("shovels(0)", x.shovels(0), 3);
        due("more by", x.asked(), 1);
        x.image(1);
        x.on(0);
        due("shovels(1)", x.shovels(1), 3);
        due("less by", x.asked(), -1);
        due("shovels(0)", x.shovels(0), 0);
        due("as much", x.asked(), 0);
        x.dig(0);
        due("the first CELL", x.shovels(0), 1);
        due("more by", x.asked(), 1);
        due("suspect(0)", x.suspect(0), 0);
        x.undo(0);
        due("shovels(3)", x.shovels(3), BAD);
        due("shovels(-1)", x.shovels(-1), BAD);
        found(x, "shovels(2)", x.shovels(2), NOTHING);

        promise = 28;
        x.dig(1); x.dig(2); x.dig(2); x.dig(3); x.dig(3);
        due("suspect(0)", x.suspect(0), 2);
        due("by 2", x.asked(), 2);
        x.at(0, 0);
        x.on(0);
        due("NONE is deeper", x.suspect(1), 3);
        due("by 1", x.asked(), 1);
        due("NONE is deeper", x.suspect(0), NONE);
        due("asked() stays", x.asked(), 1);
        due("suspect(3)", x.suspect(3), BAD);
        due("suspect(-1)", x.suspect(-1), BAD);
        found(x, "suspect(2)", x.suspect(2), NOTHING);
    }

    private static void carrying() {
        promise = 29;
        HoleMoved x = on("1300/0000/0000/0002=0000");
        long before = x.digest();
        due("nowhere", x.carry(0, 0, 0), 0);
        due("over itself", x.carry(0, 1, 0), 6);
        due("beside itself", x.carry(0, 0, 1), 8);
        due("two columns, two lines to beside another", x.carry(0, 2, 2), NONE);
        due("to another", x.carry(0, 2, 3), NONE);
        due("two lines", x.carry(0, 0, 2), 8);
        due("three lines", x.carry(0, 0, 3), 8);
        due("beside another", x.carry(0, 1, 3), NONE);
        due("out to the right", x.carry(0, 3, 0), NONE);
        due("out to the left", x.carry(0, -1, 0), NONE);
        due("out to the left, a line down", x.carry(0, -1, 1), NONE);
        due("out ahead", x.carry(0, 0, -1), NONE);
        due("out behind", x.carry(0, 0, 4), NONE);
        due("back", x.carry(1, -3, -1), 4);
        due("far off", x.carry(0, MOST, MOST), NONE);
        due("far off", x.carry(0, LEAST, LEAST), NONE);
        due("as many CELLS, but out", x.carry(0, 4, -1), NONE);
        due("as many CELLS, but out", x.carry(0, -4, 1), NONE);
        due("carry(2, 0, 0)", x.carry(2, 0, 0), BAD);
        due("carry(-1, 0, 0)", x.carry(-1, 0, 0), BAD);
        due("aside", x.digest(), before);
        due("asked()", x.asked(), 0);
    }

    private static void joining() {
        promise = 30;
        HoleMoved x = on("1000/0000/0000/0001=0000");
        due("by no 4", x.join(0, 1), NONE);
        due("asked() stays", x.asked(), 0);
        x = on("1000/0000/0000/0010=0000");
        due("by 4", x.join(0, 1), 4);
        due("the least", x.asked(), 1 << 1 | 1 << 2 | 1 << 6 | 1 << 10);
        due("the other way", x.join(1, 0), 4);
        x = on("101/000/010=000");
        due("by 1", x.join(0, 1), 1);
        due("which", x.asked(), 2);
        due("by 2", x.join(0, 2), 2);
        due("the least of several", x.asked(), 1 << 1 | 1 << 4);
        long before = x.digest();
        due("the same one", x.join(1, 1), BAD);
        due("join(0, 3)", x.join(0, 3), BAD);
        due("join(3, 0)", x.join(3, 0), BAD);
        due("join(-1, 0)", x.join(-1, 0), BAD);
        due("join(0, -1)", x.join(0, -1), BAD);
        due("aside", x.digest(), before);
        due("asked()", x.asked(), 18);
        x = on("1050=0000");
        due("beside one that is 5", x.join(0, 1), 1);
        x = on("1010/0000/0001=0000");
        due("by way of another", x.join(0, 2), 3);
        due("which", x.asked(), 1 << 1 | 1 << 3 | 1 << 7);
    }

    private static void parting() {
        promise = 31;
        HoleMoved x = on("111=000");
        due("by the middle", x.part(0), 1);
        due("which", x.asked(), 2);
        x = on("1211=0000");
        due("by the shallower", x.part(0), 1);
        due("which", x.asked(), 4);
        x = on("1111=0000");
        due("the least of as few", x.part(0), 1);
        due("which", x.asked(), 2);
        x = on("151/111/111=000");
        due("two of 1 rather than one of 5", x.part(0), 2);
        due("which", x.asked(), 1 << 3 | 1 << 7);
        x = on("151/111/151=000");
        due("three around one of 5", x.part(0), 3);
        due("which", x.asked(), 1 | 1 << 2 | 1 << 4);
        x = on("11/00=00");
        due("by no 3", x.part(0), NONE);
        due("asked() stays", x.asked(), 0);
        x = on("1111/1111=0000");
        due("two of eight", x.part(0), 2);
        due("which", x.asked(), 1 << 1 | 1 << 4);
        x = on("115/151/511=000");
        due("two of a corner", x.part(0), 2);
        due("the least of two corners", x.asked(), 1 << 1 | 1 << 3);
        due("part(1)", x.part(1), BAD);
        due("part(-1)", x.part(-1), BAD);
        x = on("1111/1001=0000");
        due("two holes: the other one stays", x.part(0), 1);
        x = on("1011=0000");
        due("one that is two already, if taken together", x.part(1), NONE);
    }

    private static void stealing() {
        promise = 32;
        HoleMoved x = on("200/000=012prsbtd");
        x.image(0);
        long before = x.digest();
        due("it is his", x.steal(1, 0, 0, 0, 4), 0);
        rowIs(x, 4);
        fillRow(x, 3, 7, 8);
        due("not in 3", x.steal(1, 0, 0, 1, 3), NONE);
        rowIs(x, 3, 7, 8);
        due("a SHAPE of one", x.steal(2, 0, 0, 2, 3), 1);
        rowIs(x, 3, 2);
        due("a SHAPE, beside it", x.steal(2, 0, 0, 1, 3), 1);
        rowIs(x, 3, 4);
        due("a BULK of 2", x.steal(3, 0, 0, 2, 3), 2);
        rowIs(x, 3, 2, 2);
        due("a PLACE, most of it in his GARDEN", x.steal(0, 0, 0, 1, 3), 2);
        rowIs(x, 3, 1, 4);
        due("a PLACE, two columns off", x.steal(0, 0, 0, 2, 3), 3);
        rowIs(x, 3, 1, 2, 5);
        due("no GARDEN of his", x.steal(2, 0, 0, 3, 3), NONE);
        x.tear(3);
        x.tear(4);
        due("aside", x.digest(), before);
        due("steal(6, ..)", x.steal(6, 0, 0, 0, 0), BAD);
        due("steal(-1, ..)", x.steal(-1, 0, 0, 0, 0), BAD);
        due("no such IMAGE", x.steal(0, 3, 0, 0, 0), BAD);
        due("no such IMAGE", x.steal(0, -1, 0, 0, 0), BAD);
        due("no such HOLE", x.steal(0, 0, 1, 0, 0), BAD);
        due("no such HOLE", x.steal(0, 0, -1, 0, 0), BAD);
        due("no such PERSON", x.steal(0, 0, 0, 4, 0), BAD);
        due("no such PERSON", x.steal(0, 0, 0, -1, 0), BAD);
        due("no such ROW", x.steal(0, 0, 0, 0, 6), BAD);
        due("no such ROW", x.steal(0, 0, 0, 0, -1), BAD);
        due("BAD ahead of NOTHING", x.steal(0, 1, 0, 4, 0), BAD);
        due("BAD ahead of NOTHING", x.steal(0, 1, 0, 0, 6), BAD);
        found(x, "steal(0, 1, 0, 0, 0)", x.steal(0, 1, 0, 0, 0), NOTHING);
        found(x, "NOTHING ahead of HOLES", x.steal(0, 1, 9, 0, 0), NOTHING);
        x = on("300/000=010r");
        x.image(0);
        x.dig(1);
        x.dig(1);
        due("the CART's EARTH does not matter", x.steal(0, 0, 0, 0, 0), 2);
        rowIs(x, 0, 101, 101);
        x = on("55/00=00b");
        x.dig(2);
        x.image(0);
        x.undo(0);
        due("none is deeper than 5", x.steal(0, 0, 0, 0, 0), 1);
        rowIs(x, 0, 2);
        x = on("500/001=010sb");
        x.image(0);
        due("dug, and what is beside it filled", x.steal(0, 0, 0, 1, 2), 2);
        rowIs(x, 2, 4, 105);
        due("dug and filled", x.steal(1, 0, 1, 1, 2), 2);
        rowIs(x, 2, 4, 105);
    }

    private static void shares() {
        promise = 33;
        HoleMoved x = on("1230/0000/0004=0102");
        parts(x, "share(0, 0)", x.share(0, 0), 2, 3);
        parts(x, "share(0, 1)", x.share(0, 1), 1, 3);
        parts(x, "share(0, 2)", x.share(0, 2), 0, 1);
        parts(x, "share(1, 2)", x.share(1, 2), 1, 1);
        parts(x, "share(0, 3)", x.share(0, 3), 0, 1);
        due("share(2, 0)", x.share(2, 0), BAD);
        due("share(-1, 0)", x.share(-1, 0), BAD);
        due("share(0, 4)", x.share(0, 4), BAD);
        due("share(0, -1)", x.share(0, -1), BAD);
    }

    private static void heaps() {
        promise = 34;
        // VOLUMES 3, 3, 2.
        HoleMoved x = on("1200/0003/2000=0000");
        fillRow(x, 0, 3, 3, 2);
        parts(x, "3 3 2", x.heaps(0), 2, 1);
        fillRow(x, 0, 1, 2, 1, 2, 1, 1);
        parts(x, "1 2 1 2 1 1", x.heaps(0), 40, 1);
        fillRow(x, 0, 3, 3, 1);
        parts(x, "too few", x.heaps(0), 0, 1);
        fillRow(x, 0, 3, 3);
        parts(x, "of each, not of some", x.heaps(0), 0, 1);
        fillRow(x, 0, 4, 2, 2);
        parts(x, "none so large", x.heaps(0), 0, 1);
        fillRow(x, 0, 80);
        parts(x, "80", x.heaps(0), 0, 1);
        fillRow(x, 0, 81);
        found(x, "81", x.heaps(0), UNLIKE);
        fillRow(x, 0, 3, 0, 2);
        found(x, "a heap of 0", x.heaps(0), UNLIKE);
        fillRow(x, 0, 3, -3, 2);
        found(x, "a heap below 0", x.heaps(0), UNLIKE);
        x.row(0, 0);
        found(x, "none", x.heaps(0), SIZE);
        x.row(0, 7);
        found(x, "more than 6", x.heaps(0), SIZE);
        found(x, "missing", x.heaps(1), NOTHING);
        due("heaps(6)", x.heaps(6), BAD);
        due("heaps(-1)", x.heaps(-1), BAD);
        x = on("55/55=00");
        fillRow(x, 0, 20);
        parts(x, "all of one", x.heaps(0), 1, 1);
        x = on("00=00");
        fillRow(x, 0, 1);
        parts(x, "out of no HOLE", x.heaps(0), 0, 1);
    }

    private static void refusedWitnesses(HoleMoved x, int which) {
        fillRow(x, 5, 0, 0, 0, 0);
        found(x, "not by threes", witnesses(x, which, 5), SIZE);
        int[][] unlike = {{4, 0, 0}, {-1, 0, 0}, {0, 6, 0}, {0, -1, 0}, {0, 0, 3}, {0, 0, -1}};
        for (int[] three : unlike) {
            fillRow(x, 5, 1, 1, 1, three[0], three[1], three[2]);
            found(x, "a number that is none", witnesses(x, which, 5), UNLIKE);
        }
        fillRow(x, 5, 9, 9, 9, 9);
        found(x, "SIZE ahead of UNLIKE", witnesses(x, which, 5), SIZE);
        x.tear(5);
        found(x, "missing", witnesses(x, which, 5), NOTHING);
        due("no such ROW", witnesses(x, which, 6), BAD);
        due("no such ROW", witnesses(x, which, -1), BAD);
    }

    private static int witnesses(HoleMoved x, int which, int r) {
        return which == 0 ? x.lies(r) : which == 1 ? x.day(r) : x.grounds(r);
    }

    private static void lies() {
        promise = 35;
        HoleMoved x = on("23/05=00");
        refusedWitnesses(x, 0);
        fillRow(x, 0, 0, 2, 0, 1, 3, 1, 1, 3, 2, 3, 5, 0, 2, 0, 2);
        due("none lies", x.lies(0), 0);
        due("the first: NONE", x.asked(), NONE);
        fillRow(x, 0, 0, 2, 0, 0, 1, 0, 0, 3, 0, 1, 4, 1, 1, 2, 2, 3, 4, 1, 2, 1, 2);
        due("four lie", x.lies(0), 4);
        due("the first", x.asked(), 1);
        x.row(0, 0);
        due("no witnesses", x.lies(0), 0);
        due("the first: NONE", x.asked(), NONE);
        x.row(0, 39);
        due("thirteen", x.lies(0), 13);
        HoleMoved none = new HoleMoved();
        none.row(0, 0);
        due("no GROUND, no witnesses", none.lies(0), 0);
        none.row(0, 3);
        found(none, "no GROUND", none.lies(0), UNLIKE);
    }

    private static void days() {
        promise = 36;
        HoleMoved x = on("23/05=00");
        refusedWitnesses(x, 1);
        fillRow(x, 0, 0, 3, 0, 1, 4, 1);
        x.lay(0, 0, 0);
        due("no IMAGE", x.day(0), NONE);
        due("asked() stays", x.asked(), 0);
        x.image(2);
        due("the only one", x.day(0), 2);
        due("two lie", x.asked(), 2);
        x.dig(0);
        x.image(1);
        due("the better one", x.day(0), 1);
        due("one lies", x.asked(), 1);
        x.image(0);
        due("the least of alike ones", x.day(0), 0);
        due("one lies", x.asked(), 1);
        x.dig(1);
        x.image(2);
        due("the best one", x.day(0), 2);
        due("none lies", x.asked(), 0);
    }

    private static void groundsOfWitnesses() {
        promise = 37;
        HoleMoved x = on("23/05=00");
        refusedWitnesses(x, 2);
        x.row(0, 0);
        parts(x, "no witnesses", x.grounds(0), 1, 1);
        fillRow(x, 0, 0, 2, 1);
        parts(x, "at least 2", x.grounds(0), 4, 1);
        fillRow(x, 0, 0, 2, 1, 0, 4, 2, 3, 3, 2);
        parts(x, "2 to 4, and at most 3", x.grounds(0), 12, 1);
        fillRow(x, 0, 0, 2, 0, 0, 3, 0, 3, 3, 2);
        parts(x, "against one another", x.grounds(0), 0, 1);
        fillRow(x, 0, 0, 5, 2, 1, 0, 1, 2, 5, 2, 3, 0, 1);
        parts(x, "all of them", x.grounds(0), 1296, 1);
        due("asked()", x.asked(), 0);
    }

    private static void odds() {
        promise = 38;
        HoleMoved x = on("1120/0000/1011=0000");
        parts(x, "odds(0, 3)", x.odds(0, 3), 9, 16);
        parts(x, "odds(0, 0)", x.odds(0, 0), 1, 1);
        parts(x, "odds(0, 12)", x.odds(0, 12), 0, 1);
        parts(x, "odds(1, 5)", x.odds(1, 5), 7, 12);
        due("odds(3, 1)", x.odds(3, 1), BAD);
        due("odds(-1, 1)", x.odds(-1, 1), BAD);
        due("odds(0, 13)", x.odds(0, 13), BAD);
        due("odds(0, -1)", x.odds(0, -1), BAD);
        x = on("22=00");
        parts(x, "odds of a deep one", x.odds(0, 12), 1, 1);
        x = on("1111/1111/1111/1111=0000");
        parts(x, "odds of sixteen", x.odds(0, 1), 45949729863572161L, 184884258895036416L);
    }

    private static void gone() {
        promise = 39;
        HoleMoved x = on("01/25=00");
        parts(x, "level ground", x.gone(0, 0, 0), 1, 1);
        parts(x, "level ground, rains", x.gone(0, 8, 5), 1, 1);
        parts(x, "no rain", x.gone(1, 0, 12), 0, 1);
        parts(x, "one rain", x.gone(1, 1, 3), 1, 4);
        parts(x, "two rains", x.gone(1, 2, 3), 7, 16);
        parts(x, "two rains of 2", x.gone(2, 2, 6), 1, 4);
        parts(x, "three rains of 2", x.gone(2, 3, 6), 1, 2);
        parts(x, "too few rains", x.gone(3, 4, 12), 0, 1);
        parts(x, "just enough", x.gone(3, 5, 12), 1, 1);
        parts(x, "eight rains of 5", x.gone(3, 8, 1), 78013, 429981696L);
        parts(x, "by 0", x.gone(1, 8, 0), 0, 1);
        due("gone(4, 1, 1)", x.gone(4, 1, 1), BAD);
        due("gone(-1, 1, 1)", x.gone(-1, 1, 1), BAD);
        due("gone(0, 9, 1)", x.gone(0, 9, 1), BAD);
        due("gone(0, -1, 1)", x.gone(0, -1, 1), BAD);
        due("gone(0, 1, 13)", x.gone(0, 1, 13), BAD);
        due("gone(0, 1, -1)", x.gone(0, 1, -1), BAD);
    }

    private static void askedStays() {
        promise = 40;
        HoleMoved x = on("1020/0003/1000=0012prsbtd");
        due("0 before", x.asked(), 0);
        fillRow(x, 0, 5, 6, 7);
        told(x, "at(0, 2)", x.at(0, 2), 7);
        x.image(0);
        x.row(1, 2);
        x.copy(0, 0, 1, 0, 2);
        x.law(0);
        x.mark(1, 1);
        x.dig(0);
        x.fill(0);
        x.rain(3, 4);
        x.undo(0);
        x.on(0);
        x.same(0, 0, 0, 0);
        x.which(0, 0, 0);
        x.fair(0);
        x.carry(0, 0, 1);
        x.steal(0, 0, 0, 0, 2);
        x.share(0, 0);
        x.heaps(0);
        x.row(3, 0);
        x.grounds(3);
        x.odds(0, 3);
        x.gone(0, 3, 3);
        x.count(2);
        x.findings(1);
        x.digest();
        x.suspect(0);
        x.part(0);
        x.at(0, 9);
        x.cell(0, 9);
        x.hole(9, 0);
        x.then(0, 9, 0);
        x.doubt(9, 0);
        x.shovels(1);
        x.join(0, 0);
        x.lies(4);
        x.day(4);
        x.mean(4);
        due("asked() stays", x.asked(), 7);
        told(x, "mean(0)", x.mean(0), 6);
    }

    private static void uppersAndLowers() {
        promise = 41;
        HoleMoved x = on("12/00=01");
        due("0 before", x.upper(), 0);
        x.share(0, 1);
        due("upper()", x.upper(), 2);
        x.share(9, 1);
        x.odds(0, 99);
        x.gone(9, 0, 0);
        x.heaps(0);
        x.grounds(0);
        due("upper() stays", x.upper(), 2);
        promise = 42;
        due("lower() stays", x.lower(), 3);
        due("1 before", new HoleMoved().lower(), 1);
        x.row(0, 0);
        x.grounds(0);
        due("lower() is 1", x.lower(), 1);
    }

    private static void counts() {
        promise = 43;
        HoleMoved x = on("1020/0003/1000=0012prsbtd");
        x.row(0, 1);
        x.row(3, 1);
        x.text(3, 1);
        x.image(1);
        x.dig(0);
        x.dig(0);
        x.fill(0);
        int[] counts = {12, 4, 4, 1, 3, 6, 3, 2, 2, 1};
        for (int what = 0; what < counts.length; what++) {
            due("count(" + what + ")", x.count(what), counts[what]);
        }
        due("count(10)", x.count(10), BAD);
        due("count(-1)", x.count(-1), BAD);
        due("count(LEAST)", x.count(LEAST), BAD);
    }

    private static void findings() {
        promise = 44;
        HoleMoved x = on("12=00p");
        due("0 before any", x.finding(), 0);
        x.row(0, 0);
        found(x, "NOTHING", x.at(1, 0), NOTHING);
        found(x, "BEYOND", x.at(0, 0), BEYOND);
        found(x, "UNLIKE", x.mark(0, 1), UNLIKE);
        found(x, "NOUGHT", x.mean(0), NOUGHT);
        found(x, "SIZE", x.heaps(0), SIZE);
        found(x, "SIZE", x.row(0, -1), SIZE);
        x.row(0, 41);
        x.image(0);
        due("finding() stays", x.finding(), SIZE);
        promise = 45;
        int[] due = {BAD, 1, 1, 1, 1, 2, BAD};
        for (int f = 0; f < due.length; f++) {
            due("findings(" + f + ")", x.findings(f), due[f]);
        }
        due("findings(-1)", x.findings(-1), BAD);
        due("findings(MOST)", x.findings(MOST), BAD);
        due("finding() stays", x.finding(), SIZE);
    }

    private static void digests() {
        promise = 46;
        long h = 17;
        for (int i = 0; i < 10; i++) {
            h = 31 * h;
        }
        for (int i = 0; i < 3 + 6 + 4; i++) {
            h = 31 * h - 1;
        }
        due("of a new object", new HoleMoved().digest(), h);
        HoleMoved x = on("10=23t");
        x.image(1);
        x.dig(1);
        x.image(2);
        fillRow(x, 4, -7, 9);
        long[] values = {
            2, 2, 1, 1, 1, 1, 1, 1, 1, 2,
            1, 2, 0, 1, 3, 0,
            4,
            -1, 1, 0, 0, 1, 1, 1,
            -1, -1, -1, -1, 2, -7, 9, -1,
            6, '1', '0', '=', '2', '3', 't', -1, -1, -1,
        };
        h = 17;
        for (long v : values) {
            h = 31 * h + v;
        }
        x.lay(4, 0, -7);
        due("digest()", x.digest(), h);
        due("asked() stays", x.asked(), -7);
    }
}
