import java.io.IOException;

/** Terms III and IV: what would be, what is TOLD and what FITS it. */
public final class WouldBeSentencesTest extends Sentences {
    private WouldBeSentencesTest() throws IOException {
        super("WouldBeSentencesTest");
    }

    public static void main(String[] args) throws IOException {
        WouldBeSentencesTest tests = new WouldBeSentencesTest();
        tests.part("III");
        tests.nothingHappens();
        tests.lack();
        tests.theLine();
        tests.grief();
        tests.whoCanGive();
        tests.whoGives();
        tests.needed();
        tests.alone();
        tests.breaks();
        tests.fords();
        tests.part("IV");
        tests.told();
        tests.fits();
        tests.fitsLater();
        tests.end();
    }

    private void nothingHappens() {
        test("What would be (nothing happens):", () -> {
            FarewellStones s = of("river 3 2; leaver a 0 1 9 2; leaver b 0 1 9 1; flood 5 3; flood 20 1; carry = 2;"
                + "depth 2 0 3; depth 2 1 2; slip = moss;");
            s.hurl(0, 0, 0);
            s.hurl(1, 0, 1);
            s.days(3);
            s.tell(0, 0, 1);
            s.hold(2);
            Check.feed(s, "leap 2;");
            String before = all(s);
            for (int i = 0; i < 2; i++) {
                s.lack(i);
                s.lackAt(i);
                s.gives(i);
                s.fits(i, 1, 60, -1);
            }
            s.grief();
            s.needed();
            s.alone();
            due("BREAKS", s.breaks(), 5);
            s.fords();
            same("all", s, before);
            due("what can be undone", s.undo(), true);
            due("undone", s.count(5), 0);
        });
    }

    /** LACK: how many STONES, by how many LEAPS, on which CELLS. */
    private void lacks(String what, FarewellStones s, int stones, int... line) {
        due(what + ": stones", s.lack(0), stones);
        due(what + ": leaps", s.lack(1), line.length + 1);
        for (int i = 0; i < line.length; i++) due(what + ": cell " + i, s.lackAt(i), line[i]);
        due(what + ": no more", s.lackAt(line.length), NONE);
    }

    private void lack() {
        test("LACK: the fewest STONES more, laid wherever one likes, so that there is a WAY OVER;", () -> {
            lacks("nothing told", of(""), 4, 0, 100, 200, 300);
            lacks("none", of("river 2 2;" + flat(1, 101)), 0, 1, 101);
            lacks("one", of("river 1 1;"), 1, 0);
            lacks("most", of("river 1 8;" + depths(1, 9, 9, 9, 9, 9, 9, 9, 9)), 72, 0, 100, 200, 300, 400, 500, 600, 700);
            lacks("at once", of("river 3 3; leap 4; depth 0 0 0;"), 0);
            lacks("not at once", of("river 3 3; leap 3;"), 1, 0);
            FarewellStones s = of("river 3 3; leaver a 0 1 9 0;" + depths(3, 3, 2, 9, 0, 9, 0, 1, 5, 2));
            lacks("by 0 0", s, 4, 0, 100, 200);
            hurl(s, 0, 2, 0, 9);
            lacks("by 2 0", s, 2, 2, 102, 202);
            // 0,1 may be laid on, though a STONE that is thrown always drifts beyond it.
            lacks("wherever one likes", of("river 2 2; flow 0 9; flow 1 9; leaver a 0 1 9 0; depth 0 0 2; depth 1 0 2;"), 3,
                0, 100);
            // Around by seven CELLS of one STONE in all rather than by three of two
            lacks("around", of("river 4 3;" + depths(4, 0, 9, 9, 9, 2, 9, 0, 0, 0, 0, 0, 9)), 2, 0, 100, 200);
            lacks("far around", of("river 4 3;" + depths(4, 0, 9, 9, 9, 0, 1, 0, 0, 9, 9, 9, 0)), 1, 0, 100, 101, 102, 103, 203);
        });
        test("of alike ones that with the fewest LEAPS;", () -> {
            lacks("two of one", of("river 2 2;" + depths(2, 1, 0, 0, 1)), 1, 0, 100);
            lacks("a WAY OVER", of("river 4 3;" + depths(4, 0, 0, 9, 0, 0, 9, 9, 0, 0, 0, 9, 0)), 0, 0, 100, 200);
            lacks("straight, not around", of("river 3 3;" + depths(3, 0, 0, 0, 2, 0, 0, 0, 0, 0)), 0, 1, 101, 201);
            lacks("by LEAPS of 2", of("river 1 3; leap 2;"), 1, 100);
        });
    }

    private void theLine() {
        test("THE LINE: its CELLS, one by one the first by y, then x;", () -> {
            lacks("by x", of("river 3 2; depth 0 0 2; depth 0 1 2;"), 2, 1, 101);
            lacks("one CELL, by y", of("river 3 2; leap 2;" + depths(3, 2, 2, 1, 1, 2, 2)), 1, 2);
            lacks("the first CELL counts most", of("river 5 4; leap 2;" + flat(4, 204, 100, 200) + "depth 1 0 2; depth 0 0 2;"), 0,
                4, 204);
            lacks("the second by y", of("river 4 4; leap 2;" + flat(101, 302, 200)), 0, 101, 200);
            lacks("the second by x", of("river 4 4; leap 2;" + flat(1, 201, 200, 202, 102)), 0, 1, 201);
        });
        test("each needs as many as it lacks to its DEPTH.", () -> {
            FarewellStones s = of("river 1 3; depth 0 0 2; depth 0 1 4; depth 0 2 0; leaver a 0 1 9 0;");
            lacks("2 and 4", s, 6, 0, 100, 200);
            hurl(s, 0, 0, 0, 5);
            lacks("none of what is higher", s, 4, 0, 100, 200);
            hurl(s, 0, 0, 1, 3);
            lacks("one", s, 1, 0, 100, 200);
            s.hurl(0, 0, 1);
            lacks("none", s, 0, 0, 100, 200);
        });
    }

    /** GRIEF, and how many each gives. */
    private void gives(String text, int grief, int... many) {
        gives(text, of(text), grief, many);
    }

    private void gives(String what, FarewellStones s, int grief, int... many) {
        due(what + ": grief", s.grief(), grief);
        for (int i = 0; i < many.length; i++) due(what + ": gives " + i, s.gives(i), many[i]);
        due(what + ": no such one", s.gives(many.length), NONE);
    }

    private void grief() {
        test("GRIEF of LACK: STONES that THE LINE needs, one by one from its first CELL on,", () -> {
            gives("river 1 1; depth 0 0 0; leaver a 0 1 2 4;", 0, 0);
            gives("river 1 1; leap 2; leaver a 0 1 2 4;", 0, 0);
            gives("river 1 1; leaver a 0 1 2 4;", 4, 1);
            gives("river 1 3; leaver a 0 1 9 4;", 12, 3);
            // 0,0 is for all, 0,1 not for b: the STONE of 0,0 is a's.
            gives("river 1 2; flow 1 5; leaver a 0 6 1 1; leaver b 0 1 1 1; leaver c 0 6 1 1;", 2, 1, 0, 1);
            // 0,0 is not for b, 0,1 for all: so it is a's likewise.
            gives("river 1 2; flow 0 5; leaver a 0 6 1 1; leaver b 0 1 1 1; leaver c 0 6 1 1;", 2, 1, 1, 0);
            // Another line would be less grief, but it is not THE LINE.
            gives("river 2 1; flow 0 2; depth 1 0 2; leaver a 0 1 2 1; leaver b 0 3 2 99;", 99, 0, 1);
        });
    }

    private void whoCanGive() {
        test("each from a LEAVER who has some left and may throw today,", () -> {
            gives("river 1 1; depth 0 0 3; leaver a 0 1 2 1; leaver b 0 1 1 9;", 11, 2, 1);
            gives("river 1 1; depth 0 0 4; leaver a 0 1 2 1; leaver b 0 1 1 9;", -2, -2, -2);
            gives("river 1 1;", -2);
            FarewellStones s = of("river 2 1; depth 0 0 2; depth 1 0 9; leaver a 0 1 3 1; leaver b 3 1 2 0;");
            gives("b not today", s, 2, 2, 0);
            s.hurl(0, 1, 0);
            gives("a has two left", s, 2, 2, 0);
            s.hurl(0, 1, 0);
            gives("a has one left", s, -2, -2, -2);
            s.days(2);
            gives("b not yet", s, -2, -2, -2);
            s.days(1);
            gives("b today", s, 0, 0, 2);
            s.hurl(1, 1, 0);
            gives("each one", s, 1, 1, 1);
        });
        test("and can throw it so that it drifts there (from no x below 0):", () -> {
            String deep = "river 4 1; depth 0 0 9; depth 1 0 9; depth 2 0 1; depth 3 0 9; flow 0 9;";
            gives(deep + "leaver a 0 3 1 5;", -2, -2);
            gives(deep + "leaver a 0 4 1 5;", 5, 1);
            gives(deep + "leaver a 0 9 1 5;", 5, 1);
            gives(deep + "leaver a 0 3 1 5; leaver b 0 4 1 8;", 8, 0, 1);
            gives("river 1 1; flow 0 9; leaver a 0 9 1 5;", -2, -2);
            gives("river 1 1; flow 0 8; leaver a 0 9 1 5;", 5, 1);
        });
    }

    private void whoGives() {
        test("the least sum of GRIEF;", () -> {
            gives("river 1 1; depth 0 0 5; leaver a 0 1 2 7; leaver b 0 1 2 3; leaver c 0 1 9 9;", 29, 2, 2, 1);
            // 0,1 is for a alone, so 0,0 is not a's.
            gives("river 1 2; flow 1 5; leaver a 0 6 1 1; leaver b 0 1 1 5;", 6, 1, 1);
            gives("river 1 2; flow 0 5; leaver a 0 6 1 1; leaver b 0 1 1 5;", 6, 1, 1);
            // 0,2 is for a alone, so none of 0,0 is.
            gives("river 1 3; depth 0 0 3; flow 2 8; leaver a 0 9 1 1; leaver b 0 6 1 1; leaver c 0 4 3 1; leaver d 0 2 2 0;", 3,
                1, 1, 1, 2);
            gives("river 1 3; flow 0 3; flow 2 7; leaver a 0 3 3 2; leaver b 0 8 2 0;", 2, 1, 2);
            // Three who pass on: 0,0 for c alone, 0,1 for b and c, 0,2 for all.
            gives("river 1 3; flow 0 7; flow 1 4; leaver a 0 1 1 9; leaver b 0 5 1 1; leaver c 0 8 1 0;", 10, 1, 1, 1);
            gives("river 1 2; flow 1 5; depth 0 0 2; depth 0 1 2; leaver a 0 6 3 1; leaver b 0 1 9 0;", 2, 2, 2);
            gives("river 1 8;" + depths(1, 9, 9, 9, 9, 9, 9, 9, 9) + "leaver a 0 1 9 99; leaver b 0 1 9 99; leaver c 0 1 9 99;"
                + "leaver d 0 1 9 99; leaver e 0 1 9 99; leaver f 0 1 9 99; leaver g 0 1 9 99; leaver h 0 1 9 99;", 72 * 99,
                9, 9, 9, 9, 9, 9, 9, 9);
        });
        test("who gives how many: of alike ones the first STONE from the first LEAVER who may be, and so on.", () -> {
            gives("river 1 1; depth 0 0 3; leaver a 0 1 2 4; leaver b 0 1 2 4;", 12, 2, 1);
            gives("river 1 2; flow 0 5; depth 0 0 2; depth 0 1 2; leaver a 0 6 3 1; leaver b 0 1 9 1;", 4, 3, 1);
            gives("river 1 2; flow 1 5; depth 0 0 2; depth 0 1 2; leaver a 0 6 3 1; leaver b 0 1 9 1;", 4, 3, 1);
            // The first STONE is a's, though c gives at less grief: b would give likewise else.
            gives("river 1 1; depth 0 0 2; leaver a 0 1 1 5; leaver b 0 1 1 5; leaver c 0 1 1 0;", 5, 1, 0, 1);
            // a can't give at 0,0: b gives the first there, though c will give two in any case.
            gives("river 1 2; depth 0 0 2; depth 0 1 1; flow 0 4; leaver a 0 4 1 1; leaver b 0 9 2 1; leaver c 0 7 2 0;", 1,
                0, 1, 2);
            gives("river 1 2; depth 0 0 2; depth 0 1 1; flow 1 3; leaver a 0 9 2 0; leaver b 0 2 1 0; leaver c 0 6 2 0;", 0,
                2, 0, 1);
            whoGivesAndSoOn();
        });
    }

    private void whoGivesAndSoOn() {
        // c has to give one: it is the last STONE.
        gives("river 1 3; leaver a 0 8 2 1; leaver b 0 8 1 1; leaver c 0 9 1 0;", 2, 2, 0, 1);
        // b, c, and for 0,2, where c can't, d
        gives("river 1 3; flow 2 5; leaver a 0 7 3 1; leaver b 0 8 1 0; leaver c 0 2 2 0; leaver d 0 6 3 0;", 0, 0, 1, 1, 1);
        // a; a, b, d on 0,1, where c can't
        gives("river 1 2; depth 0 1 3; flow 1 2; leaver a 0 7 2 0; leaver b 0 6 1 0; leaver c 0 2 1 0; leaver d 0 4 2 0;", 0,
            2, 1, 0, 1);
        // a, b; c, since b can't on 0,1; b
        gives("river 1 3; depth 0 0 2; flow 1 2; leaver a 0 4 1 0; leaver b 0 1 2 0; leaver c 0 6 1 0; leaver d 0 7 1 0;", 0,
            1, 2, 1, 0);
        // c twice on 0,0, where else only e can; d, e, e
        gives("river 1 3; depth 0 0 2; flow 0 6; depth 0 2 2; leaver a 0 6 3 1; leaver b 0 5 1 1; leaver c 0 9 2 1;"
            + "leaver d 0 3 1 0; leaver e 0 9 2 0;", 2, 0, 0, 2, 1, 2);
        // a, c, d, e: b is more grief
        gives("river 1 3; depth 0 1 2; flow 2 1; leaver a 0 7 1 0; leaver b 0 2 2 2; leaver c 0 7 1 1; leaver d 0 4 2 1;"
            + "leaver e 0 3 1 0;", 2, 1, 0, 1, 1, 1);
        // c, since d gives two in any case; a, a, d; d on 0,2
        gives("river 1 3; flow 0 7; depth 0 1 3; flow 2 5; leaver a 0 2 2 1; leaver b 0 4 1 1; leaver c 0 9 1 1;"
            + "leaver d 0 9 2 0;", 3, 2, 0, 1, 2);
        // a, f; a, d on 0,1, where no others can; c, c
        gives("river 1 3;" + depths(1, 2, 2, 2) + "flow 1 5; flow 2 2; leaver a 0 8 2 1; leaver b 0 4 1 2; leaver c 0 5 2 0;"
            + "leaver d 0 7 3 2; leaver e 0 2 3 2; leaver f 0 2 1 1; leaver g 0 1 3 2;", 5, 2, 0, 2, 1, 0, 1, 0);
    }

    /** On 0,0 lies a STONE of a; on 0,1, which is 2 deep, one each of a and b. */
    private static FarewellStones shared() {
        FarewellStones s = of("river 2 2; depth 0 1 2; leaver a 0 1 9 0; leaver b 0 1 9 0; leaver c 0 1 9 0;");
        s.hurl(0, 0, 0);
        s.hurl(0, 0, 1);
        s.hurl(1, 0, 1);
        return s;
    }

    private void needed() {
        test("NEEDED: LEAVERS without all of whose STONES (what lay on these is lower then) there is no WAY OVER,"
            + " if there is one.", () -> {
            FarewellStones s = shared();
            due("a and b", s.needed(), 3);
            s.hurl(2, 0, 1);
            due("b is not any more", s.needed(), 1);
            s.hurl(2, 1, 0);
            due("a neither: no", s.needed(), 1);
            s.hurl(2, 0, 0);
            s.hurl(2, 0, 1);
            due("none is", s.needed(), 0);
            due("there is none", of("river 2 2; leaver a 0 1 9 0;").needed(), 0);
            FarewellStones half = of("river 1 2; leaver a 0 1 9 0;");
            half.hurl(0, 0, 0);
            due("there is none, but STONES", half.needed(), 0);
            due("at once", of("river 2 1; leap 2; leaver a 0 1 9 0;").needed(), 0);
            FarewellStones eighth = of("river 1 1;" + eight());
            eighth.hurl(7, 0, 0);
            due("the eighth", eighth.needed(), 128);
            FarewellStones all = of("river 1 1; depth 0 0 8;" + eight());
            for (int who = 0; who < 8; who++) all.hurl(who, 0, 0);
            due("all eight", all.needed(), 255);
        });
    }

    private void alone() {
        test("ALONE: LEAVERS by whose STONES alone there would be one.", () -> {
            FarewellStones s = shared();
            due("none", s.alone(), 0);
            s.hurl(0, 0, 1);
            due("a", s.alone(), 1);
            s.hurl(2, 1, 0);
            s.hurl(2, 1, 1);
            due("a and c", s.alone(), 5);
            due("without STONES", of("river 1 1; depth 0 0 0; leaver a 0 1 9 0; leaver b 0 1 9 0;").alone(), 3);
            due("at once", of("river 2 1; leap 2; leaver a 0 1 9 0;").alone(), 1);
            due("nobody", of("river 1 1; depth 0 0 0;").alone(), 0);
            due("no way, no STONES", of("river 1 1;" + eight()).alone(), 0);
            FarewellStones all = of("river 8 1;" + eight());
            for (int who = 0; who < 8; who++) all.hurl(who, who, 0);
            due("all eight", all.alone(), 255);
        });
    }

    private void breaks() {
        String river = "river 3 1; leaver a 0 1 9 0; carry = 1;";
        test("BREAKS: the first day (from today on, as it is when that day is over; 200 days at most) behind which"
            + " there is no WAY OVER.", () -> {
            due("no WAY OVER now", of(river).breaks(), -3);
            FarewellStones s = of(river + "flood 4 9;");
            s.hurl(0, 0, 0);
            due("the day", s.breaks(), 4);
            s.days(4);
            due("today", s.breaks(), 4);
            s.days(1);
            due("broken", s.breaks(), -3);
            s.hurl(0, 0, 0);
            due("mended, behind the day", s.breaks(), -2);
            FarewellStones moved = of(river + "flood 4 1; flood 6 1; flood 7 1; flood 9 1;");
            moved.hurl(0, 0, 0);
            due("a WAY OVER in between", moved.breaks(), 7);
            FarewellStones last = of(river + "flood 199 9;");
            last.hurl(0, 0, 0);
            due("the 200th day", last.breaks(), 199);
            last.days(100);
            due("from day 100 on", last.breaks(), 199);
            last.days(99);
            due("today, the last one", last.breaks(), 199);
            due("at once", of("river 3 1; leap 2; flood 1 1; carry = 9;").breaks(), -2);
            due("no FLOOD, 0 deep", of("river 1 1; depth 0 0 0;").breaks(), -2);
        });
        breaksAsItIsThen(river);
    }

    private void breaksAsItIsThen(String river) {
        test("as it is when that day is over;", () -> {
            FarewellStones mossy = of("river 3 1; leaver a 0 1 9 0; flood 2 1; flood 5 9; carry = moss / 6;");
            mossy.hurl(0, 0, 0);
            due("by the MOSS of the day", mossy.breaks(), 5);
            // The second FLOOD of the day lays on the only STEP what the first one took.
            FarewellStones healed = of("river 3 2; leap 2; leaver a 0 1 9 0; flood 3 1; flood 3 1;"
                + "depth 0 0 1; depth 1 0 9; depth 2 0 1; depth 0 1 9; depth 1 1 9; depth 2 1 9; carry = 1;");
            healed.hurl(0, 0, 0);
            due("broken and mended within a day", healed.breaks(), -2);
            FarewellStones first = of(river + "flood 0 9; flood 3 9;");
            first.hurl(0, 0, 0);
            due("day 0", first.breaks(), 0);
        });
    }

    private void fords() {
        test("SECOND FORD: the most WAYS OVER that have no STEP in common (at most LONG times WIDE; -2 if one leaps from"
            + " bank to bank).", () -> {
            due("none", of("river 3 2;").fords(), 0);
            due("at once", of("river 3 2; leap 3;" + flat(0, 1, 2)).fords(), -2);
            due("not at once", of("river 3 3; leap 3;").fords(), 0);
            due("one", of("river 1 1; depth 0 0 0;").fords(), 1);
            due("side by side", of("river 3 1;" + flat(0, 2)).fords(), 2);
            due("one STEP in common", of("river 3 3;" + flat(0, 1, 101, 200, 201, 202)).fords(), 1);
            due("each CELL is one", of("river 4 3; leap 3;" + depths(4, new int[12])).fords(), 12);
            due("no more than LONG", of("river 4 5;" + depths(4, new int[20])).fords(), 4);
            // 1,0 1,1 1,2 1,3 has to be turned aside.
            due("turned aside", of("river 3 4;" + flat(0, 1, 100, 101, 201, 102, 202, 301, 302, 200)).fords(), 2);
            // The shortest one is x = 2; two others come in and go out around 2,2, which is left alone then.
            due("turned aside twice", of("river 5 5;" + flat(2, 102, 202, 302, 402, 0, 100, 200, 300, 301, 103, 104, 204, 304,
                404)).fords(), 2);
            FarewellStones most = of("river 12 4; leap 4;" + depths(12, new int[20]) + eight());
            for (int i = 0; i < 28; i++) most.hurl(i / 9, (20 + i) % 12, (20 + i) / 12);
            due("LONG times WIDE", most.fords(), 48);
            due("asked again", most.fords(), 48);
            fordsInCommon();
        });
    }

    private void fordsInCommon() {
        due("the first STEP in common", of("river 2 3;" + flat(1, 100, 101, 200, 201)).fords(), 1);
        due("a STEP near both banks", of("river 3 3; leap 2;" + flat(1, 102, 202)).fords(), 1);
        due("1 1 in common", of("river 3 6; leap 2;" + flat(0, 101, 202, 301, 402, 501, 502)).fords(), 1);
        due("0 1 in common", of("river 5 5; leap 2;" + flat(0, 100, 201, 203, 300, 301, 303, 402, 403)).fords(), 1);
        FarewellStones s = of("river 12 8;" + eight());
        for (int i = 0; i < 72; i++) s.hurl(i / 9, i % 12, i / 12);
        due("all but the last two rows", s.fords(), 0);
        due("no WAY OVER", s.breaks(), -3);
        FarewellStones rows = of("river 12 8;" + eight() + flat(600, 601, 602, 604, 605, 700, 702, 703, 705, 711));
        for (int i = 0; i < 72; i++) rows.hurl(i / 9, i % 12, i / 12);
        // Down from 0,6, 2,6 and 5,6; 1,6 and 4,6 end, 3,7 and 11,7 have nothing above.
        due("three of twelve", rows.fords(), 3);
    }

    private void told() {
        test("TOLD: how many STONES lie on a CELL (0 .. 99), 20 at most, numbered from 0 on;", () -> {
            FarewellStones s = of("river 3 2;");
            due("-1", s.tell(0, 0, -1), NONE);
            due("100", s.tell(0, 0, 100), NONE);
            for (int i = 0; i < 20; i++) due("number " + i, s.tell(2, 1, i % 2 == 0 ? 0 : 99), i);
            due("a 21st", s.tell(2, 1, 0), NONE);
            due("20", s.count(11), 20);
        });
        test("KNOWN by k: the first k.", () -> {
            FarewellStones s = of("river 3 1; leaver a 0 1 9 0;");
            s.tell(0, 0, 0);
            s.tell(1, 0, 0);
            s.tell(2, 0, 0);
            for (int k = 0; k <= 3; k++) {
                due("by " + k, s.fits(0, k, 0, -1), 3 - k);
                due("the first one by " + k, s.fits(0, k, 0, 0), k < 3 ? k : NONE);
            }
            due("by more than there are", s.fits(0, 4, 0, -1), NONE);
            FarewellStones full = of("river 2 1; leaver a 0 1 9 0;");
            for (int i = 0; i < 20; i++) full.tell(0, 0, i < 19 ? 1 : 0);
            due("by 19", full.fits(0, 19, 0, -1), 1);
            due("by all 20", full.fits(0, 20, 0, -1), 0);
        });
    }

    private void fits() {
        test("FITS, for a LEAVER who has STONES left and may throw today:", () -> {
            FarewellStones s = of("river 3 1; leaver a 0 1 2 0; leaver b 4 1 1 0;");
            due("a", s.fits(0, 0, 0, -1), 3);
            due("b, not today", s.fits(1, 0, 0, -1), NONE);
            due("b, who might behind these days", s.fits(1, 0, 9, -1), NONE);
            s.days(4);
            due("b today", s.fits(1, 0, 0, -1), 3);
            s.hurl(1, 0, 0);
            due("b has none left", s.fits(1, 0, 0, -1), NONE);
            s.hurl(0, 0, 0);
            due("a has one left", s.fits(0, 0, 0, -1), 3);
            s.hurl(0, 0, 0);
            due("a has none left", s.fits(0, 0, 0, -1), NONE);
        });
    }

    private void fitsLater() {
        test("CELLS at which, if he throws one now and n days (0 .. 60) go by, all that is KNOWN is so then.", () -> {
            FarewellStones s = of("river 4 2; flow 0 2; leaver a 0 1 9 0; flood 59 1; carry = stones;");
            due("nothing is KNOWN", s.fits(0, 0, 60, -1), 8);
            s.tell(2, 0, 1);
            due("drifts there", s.fits(0, 1, 0, -1), 1);
            due("from there", s.fits(0, 1, 0, 0), 0);
            due("59 days", s.fits(0, 1, 59, -1), 1);
            due("60 days", s.fits(0, 1, 60, -1), 0);
            due("61 days", s.fits(0, 1, 61, -1), NONE);
            due("-1 days", s.fits(0, 1, -1, -1), NONE);
            s.tell(3, 0, 0);
            due("both", s.fits(0, 2, 0, 0), 0);
            s.tell(2, 1, 1);
            due("all can't be by one", s.fits(0, 3, 0, -1), 0);
            s.forget();
            for (int x = 0; x < 4; x++) s.tell(x, 0, 0);
            due("lost, or in the other row", s.fits(0, 4, 0, -1), 6);
            due("the first one lost", s.fits(0, 4, 0, 0), 2);
            due("in the other row", s.fits(0, 4, 0, 2), 100);
            s.forget();
            s.tell(0, 0, 1);
            s.tell(0, 0, 0);
            due("what can't be at all", s.fits(0, 2, 0, -1), 0);
            fitsInTheOtherRow();
            what99();
        });
    }

    private void fitsInTheOtherRow() {
        FarewellStones s = of("river 3 3; leaver a 0 1 9 0; flood 0 1; carry = stones;");
        s.hurl(0, 0, 1);
        s.tell(0, 2, 0);
        s.tell(1, 1, 1);
        due("carried there without him: anywhere but at 0 1", s.fits(0, 2, 1, -1), 8);
        due("not yet so: at 1 1", s.fits(0, 2, 0, -1), 1);
        s.tell(2, 2, 1);
        due("his one carried too", s.fits(0, 3, 1, -1), 1);
        due("from 1 2", s.fits(0, 3, 1, 0), 201);
        s.tell(2, 0, 1);
        due("not by one STONE", s.fits(0, 4, 1, -1), 0);
        s.forget();
        s.hurl(0, 1, 0);
        s.tell(2, 0, 1);
        s.tell(1, 2, 1);
        due("the first row carried too", s.fits(0, 2, 1, -1), 1);
        due("from 0 2", s.fits(0, 2, 1, 0), 200);
    }

    private void what99() {
        FarewellStones s = of("river 2 1; leaver a 0 1 9 0;");
        s.tell(1, 0, 99);
        due("99 STONES", s.fits(0, 1, 0, -1), 0);
        s.forget();
        hurl(s, 0, 0, 0, 8);
        s.tell(0, 0, 9);
        due("the ninth", s.fits(0, 1, 0, -1), 1);
        s.tell(1, 0, 0);
        due("and nothing beside", s.fits(0, 2, 0, 0), 0);
    }
}
