/** The edges that the document names for what is carried, joined, parted, stolen: promises 29 to 32. */
public final class EdgesOfMovesTest {
    public static void main(String[] args) {
        carryOut();
        carryFar();
        carryToOthers();
        carryOverItself();
        join();
        joinTheLeast();
        joinRefused();
        part();
        partTheLeast();
        partRefused();
        stealByTimes();
        stealByRows();
        stealWithinDepths();
        stealAside();
        stealRefused();
        Probe.end("carry BAD NONE", "join BAD NONE", "part BAD NONE", "steal BAD NOTHING NONE");
    }

    private static void carryOut() {
        Probe.says(29, "NONE: one would come out of the GROUND");
        Probe p = Probe.on("000/020/000=000");
        for (int dx = -2; dx <= 2; dx++) {
            for (int dy = -2; dy <= 2; dy++) {
                String call = "carry(0, " + dx + ", " + dy + ")";
                if (Math.max(Math.abs(dx), Math.abs(dy)) == 2) {
                    p.none(call);
                } else {
                    p.gives(call, dx == 0 && dy == 0 ? 0 : 4);
                }
            }
        }
        Probe.says(29, "NONE: one of several would come out");
        Probe.on("1100/0100=0000").gives("carry(0, 2, 0)", 6).none("carry(0, 3, 0)", "carry(0, -1, 0)", "carry(0, 0, 1)");
        Probe.says(29, "from one corner to the other one, as far as can be");
        Probe.on("5000/0000/0000/0000=0000").gives("carry(0, 3, 3)", 10).none("carry(0, 4, 3)", "carry(0, 3, 4)");
        Probe.on("0000/0000/0000/0005=0000").gives("carry(0, -3, -3)", 10).none("carry(0, -4, -3)", "carry(0, -3, -4)");
        Probe.says(29, "NONE: a whole GROUND can be carried nowhere");
        Probe.on("55/55=00").gives("carry(0, 0, 0)", 0).none("carry(0, 1, 0)", "carry(0, 0, 1)", "carry(0, -1, -1)");
    }

    private static void carryFar() {
        Probe.says(29, "NONE: out at the end of a line is not in the next line");
        Probe p = Probe.on("0001/0000/0000=0000").none("carry(0, 1, 0)", "carry(0, 1, 1)", "carry(0, -4, 1)", "carry(0, 4, -1)");
        Probe.on("0000/1000/0000=0000").none("carry(0, -1, 0)", "carry(0, -1, 1)", "carry(0, 4, -1)", "carry(0, -4, 1)");
        Probe.says(29, "NONE: the least and the largest int");
        p.none("carry(0, LEAST, 0)", "carry(0, MOST, 0)", "carry(0, 0, LEAST)", "carry(0, 0, MOST)");
        p.none("carry(0, LEAST, LEAST)", "carry(0, MOST, MOST)", "carry(0, LEAST, MOST)", "carry(0, MOST, LEAST)");
        Probe.says(29, "NONE: lines times columns would wrap around to where it can be");
        p.none("carry(0, 0, 1073741824)", "carry(0, 0, -1073741824)", "carry(0, -1, 1073741824)");
        p.none("carry(0, 0, 536870912)", "carry(0, -4, 1073741825)");
        Probe.on("10/00=00").none("carry(0, 0, LEAST)", "carry(0, 1, LEAST)", "carry(0, 2, MOST)", "carry(0, 3, MOST)");
        Probe.on("000/010/000=000").none("carry(0, 1, 1431655765)", "carry(0, 0, 1431655766)", "carry(0, LEAST, MOST)");
    }

    private static void carryToOthers() {
        Probe.says(29, "NONE: to a CELL of another HOLE, or beside one");
        Probe p = Probe.on("1000/0000/0010/0000=0000");
        p.none("carry(0, 2, 2)", "carry(0, 1, 2)", "carry(0, 3, 2)", "carry(0, 2, 1)", "carry(0, 2, 3)");
        Probe.says(29, "a corner in common is not beside");
        p.gives("carry(0, 1, 1)", 2).gives("carry(0, 3, 1)", 2).gives("carry(0, 1, 3)", 2).gives("carry(0, 3, 3)", 2);
        p.gives("carry(1, -1, -1)", 2).none("carry(1, -2, -2)", "carry(1, -2, -1)", "carry(1, -1, -2)");
        Probe.says(29, "the end of a line is not beside the begin of the next one");
        Probe.on("1000/0000/0001=0000").gives("carry(0, 0, 1)", 2).gives("carry(1, 0, -1)", 2);
        Probe.on("0001/0000/1000=0000").gives("carry(0, 0, 1)", 2).gives("carry(1, 0, -1)", 2).gives("carry(1, 0, -2)", 2);
        Probe.says(29, "beside another one with one of several CELLS");
        Probe.on("1100/0000/0001=0000").gives("carry(0, 0, 2)", 4).none("carry(0, 1, 2)", "carry(0, 2, 1)").gives("carry(0, 1, 1)", 4);
    }

    private static void carryOverItself() {
        Probe.says(29, "its CELLS are 0 then, those pushed as deep as they were");
        Probe.on("1230=0000").gives("carry(0, 1, 0)", 1 + 1 + 1 + 3);
        Probe.on("0321=0000").gives("carry(0, -1, 0)", 3 + 1 + 1 + 1);
        Probe.on("12/34/00=00").gives("carry(0, 0, 1)", 1 + 2 + 2 + 2 + 3 + 4);
        Probe.says(29, "beside where it was");
        Probe.on("50/00=00").gives("carry(0, 1, 0)", 10).gives("carry(0, 0, 1)", 10).gives("carry(0, 1, 1)", 10);
        Probe.says(29, "aside; the CART's EARTH does not matter");
        Probe p = Probe.on("100/000=000").gives("count(3)", 0);
        long before = p.digest();
        p.gives("carry(0, 2, 1)", 2).digestIs(before).gives("asked()", 0).times(20, "dig(1)", "fill(1)");
        p.gives("carry(0, 2, 1)", 2).gives("count(4)", 40);
        Probe.says(29, "BAD");
        p.bad("carry(-1, 0, 0)", "carry(1, 0, 0)", "carry(LEAST, 0, 0)", "carry(MOST, 9, 9)");
        Probe.on("00=00").bad("carry(0, 0, 0)");
        new Probe().bad("carry(0, 0, 0)");
    }

    private static void join() {
        Probe.says(30, "the fewest: 1, 2, 3, 4");
        Probe.on("1010=0000").gives("join(0, 1)", 1, 2);
        Probe.on("1001=0000").gives("join(0, 1)", 2, 6);
        Probe.on("1000/0001=0000").gives("join(0, 1)", 3, 0b1110);
        Probe.on("1000/0000/0001=0000").gives("join(0, 1)", 4, 0b10001110);
        Probe.says(30, "NONE: by no 4; asked() stays");
        Probe.on("1000/0000/0000/0001=0000").does("cell(0, 0)").none("join(0, 1)", "join(1, 0)").gives("asked()", 1);
        Probe.on("0001/0000/0000/1000=0000").none("join(0, 1)", "join(1, 0)");
        Probe.says(30, "the other way round is alike");
        Probe.on("1000/0000/0001=0000").gives("join(1, 0)", 4, 0b10001110);
        Probe.says(30, "by way of another HOLE");
        Probe.on("1000/0000/0020/0001=0000").gives("join(0, 2)", 4, 0b100001000110);
        Probe.on("1000/0010/0000/0001=0000").gives("join(0, 2)", 4, 0b100010000110);
        Probe.says(30, "the end of a line is not beside the begin of the next one");
        Probe.on("01/00/10=00").gives("join(0, 1)", 2, 0b101);
        Probe.says(30, "HOLES as deep as can be");
        Probe.on("5050=0000").gives("join(0, 1)", 1, 2);
    }

    private static void joinTheLeast() {
        Probe.says(30, "which (bits; the least number)");
        Probe.on("10/01=00").gives("join(0, 1)", 1, 2);
        Probe.on("01/10=00").gives("join(0, 1)", 1, 1);
        Probe.on("101/000/101=000").gives("join(0, 1)", 1, 2).gives("join(0, 2)", 1, 8).gives("join(0, 3)", 2, 0b100010);
        Probe.on("100/000/001=000").gives("join(0, 1)", 3, 0b100110);
        Probe.on("1000/0000/0000/0010=0000").gives("join(0, 1)", 4, 0b10001000110);
        Probe.says(30, "a wall of CELLS of 5 is a HOLE, too");
        Probe.on("105/005/105=000").gives("count(2)", 3).gives("join(0, 1)", 1, 2).gives("join(0, 2)", 1, 8);
    }

    private static void joinRefused() {
        Probe p = Probe.on("1010/0000/1000=0000").gives("join(0, 2)", 1, 16);
        Probe.says(30, "BAD: also the same one");
        p.bad("join(0, 0)", "join(1, 1)", "join(2, 2)");
        Probe.says(30, "BAD");
        p.bad("join(3, 0)", "join(0, 3)", "join(-1, 0)", "join(0, -1)", "join(3, 3)", "join(-1, -1)");
        p.bad("join(LEAST, 0)", "join(0, MOST)", "join(MOST, 0)", "join(0, LEAST)", "join(LEAST, LEAST)");
        Probe.says(30, "BAD: one HOLE, none");
        Probe.on("10=00").bad("join(0, 0)", "join(0, 1)");
        Probe.on("00=00").bad("join(0, 0)", "join(0, 1)");
        Probe.says(30, "aside; full of DEEDS, too");
        p.times(20, "dig(11)", "fill(11)");
        long before = p.digest();
        p.gives("join(0, 1)", 1, 2).digestIs(before);
    }

    private static void part() {
        Probe.says(31, "NONE: by no 3; one CELL, two, asked() stays");
        Probe.on("50=00").does("cell(0, 0)").none("part(0)").gives("asked()", 5);
        Probe.on("12/00=00").none("part(0)");
        Probe.says(31, "three CELLS, in line, around a corner");
        Probe.on("151=000").gives("part(0)", 5, 2);
        Probe.on("21/10=00").gives("part(0)", 2, 1);
        Probe.on("11/01=00").gives("part(0)", 1, 2);
        Probe.says(31, "1 of its CELLS, 2, 3");
        Probe.on("1111=0000").gives("part(0)", 1, 2);
        Probe.on("11/11=00").gives("part(0)", 2, 6);
        Probe.on("151/111/151=000").gives("part(0)", 3, 0b10101);
        Probe.says(31, "1 to 3 of its CELLS: 4, though by fewer SHOVELS, are too many");
        Probe.on("5155/5155/5155/5155=0000").gives("part(0)", 6, 0b10010);
        Probe.on("515/515/515=000").gives("part(0)", 3, 0b10010010);
        Probe.says(31, "of all 16, as deep as can be");
        Probe.on("5555/5555/5555/5555=0000").gives("part(0)", 10, 0b10010);
        Probe.says(31, "two or more: three, four");
        Probe.on("010/111/010=000").gives("part(0)", 1, 16);
        Probe.says(31, "FILLED whole, not once");
        Probe.on("131=000").gives("part(0)", 3, 2);
        Probe.says(31, "of a HOLE, not of another one");
        Probe.on("1100/0000/1110=0000").none("part(0)").gives("part(1)", 1, 1 << 9);
    }

    private static void partTheLeast() {
        Probe.says(31, "which (bits; the least number of as few)");
        Probe.on("1111/0000=0000").gives("part(0)", 1, 2);
        Probe.on("1211=0000").gives("part(0)", 1, 4);
        Probe.on("1121=0000").gives("part(0)", 1, 2);
        Probe.on("12/21=00").gives("part(0)", 2, 9);
        Probe.on("21/12=00").gives("part(0)", 2, 6);
        Probe.says(31, "fewer SHOVELS by more CELLS");
        Probe.on("151/111=000").gives("part(0)", 2, 0b10001);
        Probe.says(31, "as few SHOVELS by 1 CELL and by 2: the least number");
        Probe.on("11/13/02/02=00").gives("part(0)", 2, 0b110);
        Probe.on("1221/0011=0000").gives("part(0)", 2, 0b10);
    }

    private static void partRefused() {
        Probe.says(31, "BAD");
        Probe p = Probe.on("111/000/101=000").gives("part(0)", 1, 2).none("part(1)", "part(2)");
        p.bad("part(3)", "part(-1)", "part(LEAST)", "part(MOST)").gives("asked()", 2);
        Probe.on("00=00").bad("part(0)");
        new Probe().bad("part(0)");
        Probe.says(31, "aside; EARTH of the CART does not matter");
        long before = p.digest();
        p.gives("count(3)", 0).gives("part(0)", 1, 2).digestIs(before);
    }

    private static void stealByTimes() {
        Probe.says(32, "0 times: a ROW of none comes anew");
        Probe p = Probe.on("100=012b").does("image(0)").lays(2, 7, 8, 9).gives("steal(0, 0, 0, 0, 2)", 0).rowIs(2);
        p.gives("steal(0, 0, 0, 0, 5)", 0).rowIs(5).gives("count(7)", 2);
        Probe.says(32, "1, 2, 3 times");
        p.gives("steal(0, 0, 0, 2, 0)", 1).rowIs(0, 2);
        Probe.on("200=012b").does("image(0)").gives("steal(0, 0, 0, 2, 0)", 2).rowIs(0, 2, 2);
        Probe.on("300=012b").does("image(0)").gives("steal(0, 0, 0, 2, 0)", 3).rowIs(0, 2, 2, 2);
        Probe.says(32, "NONE: not in 3; a ROW that would come anew stays");
        p = Probe.on("400=012b").does("image(0)").lays(0, 7, 8).none("steal(0, 0, 0, 2, 0)", "steal(0, 0, 0, 1, 0)");
        p.rowIs(0, 7, 8);
        Probe.says(32, "NONE: a ROW that is missing stays so");
        p.none("steal(0, 0, 0, 2, 1)", "steal(0, 0, 0, 2, 5)").finds(Probe.NOTHING, "at(1, 0)", "at(5, 0)");
        Probe.says(32, "NONE: a PERSON without a GARDEN");
        p.none("steal(0, 0, 0, 3, 0)");
        Probe.on("10=00p").does("image(0)").none("steal(0, 0, 0, 1, 0)", "steal(0, 0, 0, 2, 0)", "steal(0, 0, 0, 3, 0)")
                .gives("steal(0, 0, 0, 0, 0)", 0);
        Probe.on("10=33p").does("image(0)").none("steal(0, 0, 0, 0, 0)").gives("steal(0, 0, 0, 3, 0)", 0);
        Probe.says(32, "no HOLE of now is needed at first");
        Probe.on("10=01s").does("image(0)", "rain(12, 1)").gives("count(2)", 0).gives("steal(0, 0, 0, 1, 0)", 1).rowIs(0, 1)
                .gives("steal(0, 0, 0, 0, 0)", 1).rowIs(0, 0);
    }

    private static void stealByRows() {
        Probe.says(32, "each the CELL, 100 more, if it is FILLED");
        Probe p = Probe.on("100=012b").does("image(0)").gives("steal(0, 0, 0, 1, 0)", 2).rowIs(0, 1, 100);
        Probe.says(32, "the last CELL of 16, DUG and FILLED");
        Probe.on("1000/0000/0000/0000=0001s").does("image(0)").gives("steal(0, 0, 0, 1, 0)", 1).rowIs(0, 3);
        Probe.on("0000/0000/0000/0001=0001r").does("image(0)", "dig(14)", "dig(10)").gives("steal(0, 0, 0, 1, 0)", 1).rowIs(0, 114);
        Probe.on("0000/0000/0000/0010=0000r").does("image(0)", "dig(15)").gives("steal(0, 0, 0, 0, 0)", 1).rowIs(0, 115);
        Probe.says(32, "by these numbers, the first ones first");
        p = Probe.on("100/000=012p").does("image(0)").gives("steal(0, 0, 0, 1, 0)", 2).rowIs(0, 1, 4);
        Probe.on("200=012s").does("image(0)").gives("steal(0, 0, 0, 2, 0)", 1).rowIs(0, 2);
        Probe.on("1000=0111s").does("image(0)").gives("steal(0, 0, 0, 1, 0)", 1).rowIs(0, 2);
        Probe.says(32, "the same CELL more than once");
        Probe.on("300/000=010r").does("image(0)", "dig(1)", "dig(1)", "dig(1)").gives("steal(0, 0, 0, 0, 0)", 3)
                .rowIs(0, 101, 101, 101);
        Probe.says(32, "a ROW comes anew, longer or shorter than it was");
        p = Probe.on("200=012bs").does("image(0)").gives("row(0, 40)", 40).gives("steal(0, 0, 0, 2, 0)", 2).rowIs(0, 2, 2);
        p.gives("steal(1, 0, 0, 2, 0)", 1).rowIs(0, 2).gives("steal(0, 0, 0, 2, 0)", 2).rowIs(0, 2, 2);
        Probe.says(32, "a HOLE of then, as it was, not as it is now");
        Probe.on("20=01b").does("image(0)", "dig(0)").gives("steal(0, 0, 0, 0, 0)", 1).rowIs(0, 100);
    }

    private static void stealWithinDepths() {
        Probe.says(32, "a CELL of 5 is not DUG");
        Probe.on("55/00=00b").does("dig(2)", "image(0)", "undo(0)").gives("steal(0, 0, 0, 0, 0)", 1).rowIs(0, 2);
        Probe.on("5500=0000b").does("dig(2)", "image(0)", "undo(0)").gives("steal(0, 0, 0, 0, 0)", 1).rowIs(0, 2);
        Probe.on("55=00b").does("image(0)", "rain(12, 1)").gives("steal(0, 0, 0, 0, 0)", 2).rowIs(0, 0, 1);
        Probe.says(32, "a CELL of 0 is not FILLED");
        Probe.on("10=01d").does("image(0)", "dig(0)").gives("steal(0, 0, 0, 0, 0)", 1).rowIs(0, 100);
        Probe.says(32, "FILLED whole, the HOLE goes");
        Probe.on("100/001=010r").does("image(0)").gives("steal(0, 0, 1, 0, 0)", 0).does("dig(4)").gives("steal(0, 0, 1, 0, 0)", 1)
                .rowIs(0, 104);
    }

    private static void stealAside() {
        Probe.says(32, "aside: nothing but the ROW is changed");
        Probe p = Probe.on("200/000=012bs").does("image(0)", "dig(5)", "cell(0, 0)", "share(0, 0)").gives("row(0, 2)", 2);
        p.does("lay(0, 0, 5)", "lay(0, 1, 5)", "cell(0, 0)");
        long before = p.digest();
        p.gives("steal(0, 0, 0, 2, 0)", 1).rowIs(0, 2).gives("count(4)", 1).gives("count(3)", 1);
        p.lays(0, 5, 5).digestIs(before).gives("upper()", 1).gives("undo(0)", 1).gives("shovels(0)", 0, 0);
        Probe.says(32, "asked() stays");
        p.does("cell(0, 0)").gives("steal(0, 0, 0, 2, 0)", 2).gives("asked()", 2);
        Probe.says(32, "EARTH of the CART does not matter");
        Probe.on("200/000=010r").does("image(0)", "dig(1)", "fill(0)").gives("count(3)", 0).state("fill(1)")
                .gives("steal(0, 0, 0, 0, 0)", 1).rowIs(0, 101);
        Probe.says(32, "40 DEEDS do not matter");
        Probe.on("10=01s").does("image(0)").times(20, "dig(1)", "fill(1)").full("dig(1)").gives("steal(0, 0, 0, 1, 0)", 2)
                .rowIs(0, 1, 100).gives("count(4)", 40);
    }

    private static void stealRefused() {
        Probe p = Probe.on("100/001=012pr").does("image(0)").lays(0, 4);
        Probe.says(32, "BAD by LAWS, IMAGES");
        p.bad("steal(-1, 0, 0, 0, 0)", "steal(2, 0, 0, 0, 0)", "steal(LEAST, 0, 0, 0, 0)", "steal(MOST, 1, 0, 0, 0)");
        p.bad("steal(0, -1, 0, 0, 0)", "steal(0, 3, 0, 0, 0)", "steal(0, LEAST, 0, 0, 0)", "steal(0, MOST, 0, 0, 0)");
        Probe.says(32, "BAD by HOLES");
        p.bad("steal(0, 0, -1, 0, 0)", "steal(0, 0, 2, 0, 0)", "steal(0, 0, LEAST, 0, 0)", "steal(0, 0, MOST, 0, 0)");
        Probe.says(32, "BAD: a PERSON (0 .. 3)");
        p.bad("steal(0, 0, 0, -1, 0)", "steal(0, 0, 0, 4, 0)", "steal(0, 0, 0, LEAST, 0)", "steal(0, 0, 0, MOST, 0)");
        Probe.says(32, "BAD by ROWS");
        p.bad("steal(0, 0, 0, 0, -1)", "steal(0, 0, 0, 0, 6)", "steal(0, 0, 0, 0, LEAST)", "steal(0, 0, 0, 0, MOST)");
        Probe.says(32, "NOTHING, behind BAD by LAWS, PERSONS, ROWS");
        p.finds(Probe.NOTHING, "steal(0, 1, 0, 0, 0)", "steal(1, 2, 1, 3, 5)");
        p.bad("steal(2, 1, 0, 0, 0)", "steal(0, 1, 0, 4, 0)", "steal(0, 1, 0, 0, 6)");
        Probe.says(32, "NOTHING, ahead of BAD by HOLES");
        p.finds(Probe.NOTHING, "steal(0, 1, 2, 0, 0)", "steal(0, 1, -1, 0, 0)");
        p.rowIs(0, 4);
        Probe.says(32, "BAD: no LAWS, no HOLES then");
        Probe.on("10=00").does("image(0)").bad("steal(0, 0, 0, 0, 0)");
        Probe.on("00=00p").does("image(0)", "dig(0)").bad("steal(0, 0, 0, 0, 0)");
    }
}
