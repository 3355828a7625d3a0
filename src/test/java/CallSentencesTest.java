import java.io.IOException;
import java.lang.reflect.Modifier;

/** The promises 1 to 27, and for how many calls they hold. */
public final class CallSentencesTest extends Sentences {
    private static final int[] ODD = {-1, LEAST, MOST};

    private CallSentencesTest() throws IOException {
        super("CallSentencesTest");
    }

    public static void main(String[] args) throws IOException {
        CallSentencesTest tests = new CallSentencesTest();
        tests.newObject();
        tests.feed();
        tests.back();
        tests.read();
        tests.place();
        tests.cell();
        tests.cellWhat();
        tests.stone();
        tests.leaver();
        tests.hurl();
        tests.hurlNot();
        tests.days();
        tests.undo();
        tests.over();
        tests.overAt();
        tests.lack();
        tests.lackAt();
        tests.grief();
        tests.gives();
        tests.needed();
        tests.alone();
        tests.breaks();
        tests.fords();
        tests.tell();
        tests.forget();
        tests.fits();
        tests.hold();
        tests.restore();
        tests.countOfText();
        tests.countOfStones();
        tests.countOfCalls();
        tests.manyCalls();
        tests.end();
    }

    private void newObject() {
        part("Promise 1:");
        test("As if an empty text had been read.", () -> {
            FarewellStones read = of("river 2 2; leap 3; leaver a 0 1 9 0;");
            due("empty text", read.read(), 0);
            FarewellStones s = new FarewellStones();
            same("as that", s, all(read));
            int[] want = {8, 4, 1, 0, 0, 0, 0, 0, 0, 0, 0, 0, 0};
            for (int what = 0; what < want.length; what++) due("count " + what, s.count(what), want[what]);
            due("place", s.place(), NONE);
            int[] cell = {0, 1, 0, 0, -2, -2};
            for (int what = 0; what < cell.length; what++) due("cell " + what, s.cell(7, 3, what), cell[what]);
            due("undo", s.undo(), false);
            for (int slot = 0; slot < 3; slot++) due("restore " + slot, s.restore(slot), false);
            due("over", s.over(0, 0), -2);
            due("lack", s.lack(0), 4);
            due("grief", s.grief(), -2);
            due("breaks", s.breaks(), -3);
        });
        due("NONE", FarewellStones.NONE, NONE);
        due("final", Modifier.isFinal(FarewellStones.class.getModifiers()), true);
    }

    private void feed() {
        part("Promise 2:");
        test("Twenty bytes, the highest of a first, come behind the tape: how many it has.", () -> {
            FarewellStones s = new FarewellStones();
            // "leap" " 2; " "leap" " 3; " "    "
            due("20", s.feed(0x6c656170, 0x20323b20, 0x6c656170, 0x20333b20, 0x20202020), 20);
            due("40", s.feed(0x72697665, 0x72203120, 0x313b2020, 0x20202020, 0x20206c65), 40);
            due("60", s.feed(0x61702034, 0x3b202020, 0x20202020, 0x20202020, 0x20202020), 60);
            due("read", s.read(), 0);
            due("LONG by the second twenty", s.count(0), 1);
            due("LEAP by the last one, over both", s.count(2), 4);
            Check.feed(s, "leap 3;");
            due("behind what is there", s.feed(0x2020203f, 0, 0, 0, 0), 27);
            due("read", s.read(), SYNTAX);
            due("the lowest byte of a", s.place(), 10);
            FarewellStones high = new FarewellStones();
            high.feed(0x2020ff20, 0, 0, 0, 0);
            due("bytes beyond 127", high.read(), SYNTAX);
            due("where", high.place(), 2);
            FarewellStones last = new FarewellStones();
            last.feed(0x20202020, 0x20202020, 0x20202020, 0x20202020, 0x20202001);
            last.read();
            due("the lowest byte of e", last.place(), 19);
        });
        test("NONE, and nothing comes, if it would have more than 2,000.", () -> {
            FarewellStones s = new FarewellStones();
            for (int i = 1; i <= 100; i++) due("feed " + i, s.feed(0x20202020, -1, 0, LEAST, MOST), 20 * i);
            due("full", s.feed(0, 0, 0, 0, 0), NONE);
            due("nothing comes", s.count(9), 2000);
            s.back(19);
            due("one too many", s.feed(0, 0, 0, 0, 0), NONE);
            due("nothing comes", s.count(9), 1981);
            s.back(1);
            due("just so many", s.feed(0, 0, 0, 0, 0), 2000);
        });
    }

    private void back() {
        part("Promise 3:");
        test("The last n bytes of the tape go: how many it has.", () -> {
            FarewellStones s = new FarewellStones();
            due("0 of none", s.back(0), 0);
            Check.feed(s, "leap 2;leap 9;");
            due("0", s.back(0), 14);
            due("1", s.back(1), 13);
            due("6", s.back(6), 7);
            due("read what is left", s.read(), 0);
            due("LEAP", s.count(2), 2);
            Check.feed(s, "leap");
            due("all", s.back(4), 0);
            for (int i = 0; i < 100; i++) s.feed(0, 0, 0, 0, 0);
            due("all of a full one", s.back(2000), 0);
        });
        test("NONE, and nothing goes, if it has not so many, or n is below 0.", () -> {
            FarewellStones s = new FarewellStones();
            due("1 of none", s.back(1), NONE);
            Check.feed(s, "leap 3;");
            due("one too many", s.back(8), NONE);
            for (int n : ODD) due("back " + n, s.back(n), NONE);
            due("nothing goes", s.count(9), 7);
            due("read", s.read(), 0);
            due("LEAP", s.count(2), 3);
        });
    }

    private void read() {
        part("Promise 4:");
        test("The tape, which is empty then, is read: 0, or the number of its FAULT.", () -> {
            FarewellStones s = new FarewellStones();
            String[] texts = {"", "leap 2;", "leap", "flood 1 1;".repeat(9), "leaver a 0 1 1 0;".repeat(2), "leap 9;"};
            int[] faults = {0, 0, SYNTAX, ROOM, TWICE, WRONG};
            for (int i = 0; i < texts.length; i++) {
                due("read " + texts[i], Check.read(s, texts[i]), faults[i]);
                due("empty then", s.count(9), 0);
            }
            Check.read(s, "leap 2");
            Check.feed(s, ";");
            due("nothing is left of the text before", s.read(), SYNTAX);
            due("where", s.place(), 0);
            due("an empty one", s.read(), 0);
            due("LEAP", s.count(2), 1);
        });
    }

    private void place() {
        part("Promise 5:");
        test("The byte of the latest read()'s FAULT; NONE without.", () -> {
            FarewellStones s = new FarewellStones();
            due("never read", s.place(), NONE);
            Check.read(s, "leap 1; leap 9;");
            due("WRONG", s.place(), 13);
            due("again", s.place(), 13);
            Check.feed(s, "leap");
            due("before the next read", s.place(), 13);
            s.read();
            due("the latest one, at the text's end", s.place(), 4);
            Check.read(s, "?");
            due("byte 0", s.place(), 0);
            Check.read(s, "leap 1;");
            due("without", s.place(), NONE);
        });
    }

    /** All that cell tells of a CELL. */
    private void is(String what, FarewellStones s, int x, int y, int... want) {
        for (int i = 0; i < want.length; i++) due(what + ": cell " + i, s.cell(x, y, i), want[i]);
    }

    private void cell() {
        part("Promise 6:");
        test("Of a CELL: what 0 STONES, 1 DEPTH, 2 MOSS, 3: 1 if a STEP, else 0,", () -> {
            FarewellStones s = of("river 3 2; depth 0 0 2; depth 2 1 0; depth 1 1 8; slip = 150 - stones * 60; leaver a 0 1 9 0;"
                + "leaver b 0 1 9 0;");
            is("empty", s, 0, 0, 0, 2, 0, 0, -2, -2);
            is("0 deep", s, 2, 1, 0, 0, 0, 1, 100, -2);
            s.hurl(0, 0, 0);
            is("one of two", s, 0, 0, 1, 2, 0, 0, -2, 0);
            s.days(3);
            is("three days", s, 0, 0, 1, 2, 3, 0, -2, 0);
            s.hurl(1, 0, 0);
            is("two of two", s, 0, 0, 2, 2, 0, 1, 30, 1);
            s.days(1);
            s.hurl(0, 0, 0);
            s.days(2);
            is("three of two", s, 0, 0, 3, 2, 2, 1, 0, 0);
            hurl(s, 1, 1, 1, 9);
            is("all that he has left", s, 1, 1, 8, 8, 0, 1, 0, 1);
        });
    }

    private void cellWhat() {
        test("4 SLIPPERY (-2: no STEP),", () -> {
            FarewellStones s = of("river 2 1; depth 0 0 2; slip = 7; leaver a 0 1 9 0;");
            due("no STONE", s.cell(0, 0, 4), -2);
            s.hurl(0, 0, 0);
            due("one too few", s.cell(0, 0, 4), -2);
            s.hurl(0, 0, 0);
            due("a STEP", s.cell(0, 0, 4), 7);
        });
        test("5 whose STONE lies on top (-2: none).", () -> {
            FarewellStones s = of("river 2 1;" + eight());
            due("none", s.cell(0, 0, 5), -2);
            for (int who : new int[] {7, 0, 3}) {
                s.hurl(who, 0, 0);
                due("top", s.cell(0, 0, 5), who);
            }
            s.undo();
            due("the one under it", s.cell(0, 0, 5), 0);
        });
        test("NONE for others.", () -> {
            FarewellStones s = of("river 3 2; leaver a 0 1 9 0;");
            s.hurl(0, 0, 0);
            for (int what = 0; what < 6; what++) {
                for (int odd : ODD) {
                    due("x " + odd, s.cell(odd, 0, what), NONE);
                    due("y " + odd, s.cell(0, odd, what), NONE);
                    due("both " + odd, s.cell(odd, odd, what), NONE);
                }
                due("x 3", s.cell(3, 0, what), NONE);
                due("y 2", s.cell(0, 2, what), NONE);
                due("one row on", s.cell(-12, 1, what), NONE);
                due("one row back", s.cell(12, -1, what), NONE);
            }
            for (int odd : ODD) due("what " + odd, s.cell(0, 0, odd), NONE);
            due("what 6", s.cell(0, 0, 6), NONE);
        });
    }

    private void stone() {
        part("Promise 7:");
        test("Whose STONE is the i-th of a CELL, from the lowest (0) on;", () -> {
            FarewellStones s = of("river 2 1; leaver a 0 1 9 0; leaver b 0 1 9 0; leaver c 0 1 9 0;");
            int[] who = {2, 0, 1, 1, 0};
            for (int leaver : who) s.hurl(leaver, 1, 0);
            for (int i = 0; i < 5; i++) due("stone " + i, s.stone(1, 0, i), who[i]);
            FarewellStones all = of("river 2 1;" + eight());
            for (int i = 0; i < 72; i++) all.hurl(i % 8, 0, 0);
            for (int i = 0; i < 72; i++) due("of 72: " + i, all.stone(0, 0, i), i % 8);
        });
        test("NONE: not so many, no such CELL.", () -> {
            FarewellStones s = of("river 2 1; leaver a 0 1 9 0;");
            due("none", s.stone(0, 0, 0), NONE);
            hurl(s, 0, 0, 0, 2);
            due("2 of two", s.stone(0, 0, 2), NONE);
            for (int odd : ODD) {
                due("i " + odd, s.stone(0, 0, odd), NONE);
                due("x " + odd, s.stone(odd, 0, 0), NONE);
                due("y " + odd, s.stone(0, odd, 0), NONE);
            }
            due("x 2", s.stone(2, 0, 0), NONE);
            due("y 1", s.stone(0, 1, 0), NONE);
        });
    }

    /** All that leaver tells of a LEAVER. */
    private void has(String what, FarewellStones s, int who, int... want) {
        for (int i = 0; i < want.length; i++) due(what + ": leaver " + i, s.leaver(who, i), want[i]);
    }

    private void leaver() {
        part("Promise 8:");
        test("Of a LEAVER: what 0 STONES that he has left, 1 those that lie in the RIVER, 2 those that are lost, 3 SIZE,"
            + " 4: 1 if he may throw today (has some, DAY come), else 0.", () -> {
            FarewellStones s = of("river 3 1; flow 0 4; leaver a 0 5 2 0; leaver b 3 4 1 0; flood 3 1; carry = 1;");
            has("a", s, 0, 2, 0, 0, 5, 1);
            has("b", s, 1, 1, 0, 0, 4, 0);
            s.hurl(0, 0, 0);
            has("a, one lies", s, 0, 1, 1, 0, 5, 1);
            s.days(2);
            has("b, not yet", s, 1, 1, 0, 0, 4, 0);
            s.days(1);
            has("b, today", s, 1, 1, 0, 0, 4, 1);
            s.hurl(0, 2, 0);
            has("a, none left", s, 0, 0, 2, 0, 5, 0);
            due("lost", s.hurl(1, 2, 0), -2);
            has("b, lost", s, 1, 0, 0, 1, 4, 0);
            s.days(1);
            has("a, one carried off", s, 0, 0, 1, 1, 5, 0);
        });
        test("NONE for others.", () -> {
            FarewellStones s = of("leaver a 0 5 2 0; leaver b 3 3 1 0;");
            for (int what = 0; what < 5; what++) {
                for (int odd : ODD) due("leaver " + odd, s.leaver(odd, what), NONE);
                due("leaver 2", s.leaver(2, what), NONE);
            }
            for (int odd : ODD) due("what " + odd, s.leaver(0, odd), NONE);
            due("what 5", s.leaver(0, 5), NONE);
            due("a ninth", of(eight()).leaver(8, 0), NONE);
            due("none at all", of("").leaver(0, 3), NONE);
        });
    }

    private void hurl() {
        part("Promise 9:");
        test("THROWN: 1000 + 100 * y + x where it lies;", () -> {
            FarewellStones s = of("river 12 8; flow 2 8; leaver a 0 1 9 0; leaver b 0 4 9 0;");
            due("0 0", s.hurl(0, 0, 0), 1000);
            due("11 7", s.hurl(0, 11, 7), 1711);
            due("not where it was thrown at", s.hurl(0, 1, 2), 1209);
            due("by SIZE", s.hurl(1, 1, 2), 1203);
            due("lies there", s.cell(3, 2, 5), 1);
        });
        test("-2: lost;", () -> {
            FarewellStones s = of("river 12 8; flow 7 9; leaver a 0 1 9 0;");
            due("the last CELL", s.hurl(0, 2, 7), 1711);
            due("beyond", s.hurl(0, 3, 7), -2);
            due("lost", s.leaver(0, 2), 1);
            due("left", s.leaver(0, 0), 7);
            due("a thing done", s.count(10), 2);
        });
    }

    private void hurlNot() {
        test("NONE, and nothing happens: no such ones, he may not.", () -> {
            FarewellStones s = of("river 3 2; leaver a 0 1 9 0; leaver b 1 9 1 0; leaver c 0 5 1 0;");
            s.hurl(2, 0, 0);
            String before = all(s);
            for (int odd : ODD) {
                due("leaver " + odd, s.hurl(odd, 0, 0), NONE);
                due("x " + odd, s.hurl(0, odd, 0), NONE);
                due("y " + odd, s.hurl(0, 0, odd), NONE);
            }
            due("leaver 3", s.hurl(3, 0, 0), NONE);
            due("x 3", s.hurl(0, 3, 0), NONE);
            due("y 2", s.hurl(0, 0, 2), NONE);
            due("his day has not come", s.hurl(1, 0, 0), NONE);
            due("none left", s.hurl(2, 0, 0), NONE);
            same("nothing happened", s, before);
            s.days(1);
            due("his day has come", s.hurl(1, 0, 0), 1000);
            due("a ninth leaver", of(eight()).hurl(8, 0, 0), NONE);
            due("none at all", new FarewellStones().hurl(0, 0, 0), NONE);
        });
    }

    private void days() {
        part("Promise 10:");
        test("n days (0 .. 100; 0 is no thing done) go by: which day it is;", () -> {
            FarewellStones s = of("leaver a 0 1 9 0; flood 1 9; carry = 9;");
            s.hurl(0, 0, 0);
            due("0", s.days(0), 0);
            due("no thing done", s.count(10), 1);
            due("1", s.days(1), 1);
            due("0, no FLOOD of today", s.days(0), 1);
            due("still there", s.cell(0, 0, 0), 1);
            due("100", s.days(100), 101);
            due("things done", s.count(10), 3);
            due("100 more", s.days(100), 201);
            FarewellStones each = of("leaver a 0 1 9 0;");
            each.hurl(0, 0, 0);
            each.days(7);
            due("each day is one of MOSS", each.cell(0, 0, 2), 7);
        });
        test("NONE, and nothing happens: no such n.", () -> {
            FarewellStones s = of("leaver a 0 1 9 0;");
            s.hurl(0, 0, 0);
            String before = all(s);
            for (int odd : ODD) due("days " + odd, s.days(odd), NONE);
            due("days 101", s.days(101), NONE);
            same("nothing happened", s, before);
        });
    }

    private void undo() {
        part("Promise 11:");
        test("The last thing done (hurl, days) is undone: true;", () -> {
            FarewellStones s = of("river 3 1; flow 0 1; leaver a 0 1 9 0; flood 0 1; carry = 1;");
            String[] before = new String[5];
            before[0] = all(s);
            s.hurl(0, 0, 0);
            before[1] = all(s);
            s.hurl(0, 2, 0);
            before[2] = all(s);
            s.days(5);
            before[3] = all(s);
            s.hurl(0, 1, 0);
            for (int i = 3; i >= 0; i--) {
                due("undo " + i, s.undo(), true);
                same("as it was before", s, before[i]);
            }
            s.days(4);
            s.days(4);
            s.undo();
            s.days(2);
            s.undo();
            due("from there on", s.count(5), 4);
            s.undo();
            due("and before", s.count(5), 0);
            pilesUndone();
        });
        test("false: there is none (the last 25 can be).", () -> {
            FarewellStones s = of("leaver a 0 1 9 0;");
            due("none", s.undo(), false);
            s.hurl(0, 9, 9);
            s.days(0);
            s.days(-1);
            s.tell(0, 0, 0);
            s.hold(0);
            due("no thing done", s.undo(), false);
            for (int i = 0; i < 25; i++) s.days(i + 1);
            for (int i = 0; i < 25; i++) due("25: undo " + i, s.undo(), true);
            due("all undone", s.count(5), 0);
            due("a 26th", s.undo(), false);
            for (int i = 0; i < 26; i++) s.days(i + 1);
            for (int i = 0; i < 25; i++) due("26: undo " + i, s.undo(), true);
            due("the first one stays", s.count(5), 1);
            due("no more", s.undo(), false);
        });
    }

    /** Two piles that a FLOOD has heaped up lie as before, and go on as before. */
    private void pilesUndone() {
        FarewellStones s = of("river 4 1; leaver a 0 1 9 0; leaver b 0 1 9 0; flood 0 1; flood 2 1; carry = 2;");
        for (int who : new int[] {1, 0, 1}) s.hurl(who, 0, 0);
        for (int who : new int[] {0, 1, 0}) s.hurl(who, 1, 0);
        s.hold(0);
        String before = all(s);
        s.days(1);
        String carried = all(s);
        s.days(2);
        s.undo();
        same("back before the second FLOOD", s, carried);
        s.undo();
        same("back before the first one", s, before);
        s.days(1);
        same("carried likewise", s, carried);
        s.days(2);
        s.restore(0);
        for (int i = 0; i < 3; i++) {
            due("restored, 0 0", s.stone(0, 0, i), 1 - i % 2);
            due("restored, 1 0", s.stone(1, 0, i), i % 2);
        }
    }

    private void over() {
        part("Promise 12:");
        test("WAY OVER by 0, 1: what 0 LEAPS, 1 the sum of what is SLIPPERY;", () -> {
            FarewellStones s = of("river 3 3;" + flat(1, 101, 201, 100, 200)
                + "slip = if 0 < along * across then along * across * 4 else 1;");
            due("by 0, LEAPS", s.over(0, 0), 4);
            due("by 0, sum", s.over(0, 1), 13);
            due("by 1, LEAPS", s.over(1, 0), 5);
            due("by 1, sum", s.over(1, 1), 7);
            FarewellStones atOnce = of("river 3 3; leap 4; slip = 9;" + flat(0));
            for (int by = 0; by < 2; by++) {
                due("at once, LEAPS", atOnce.over(by, 0), 1);
                due("at once, sum", atOnce.over(by, 1), 0);
            }
        });
        test("-2: there is none;", () -> {
            for (int by = 0; by < 2; by++) {
                for (int what = 0; what < 2; what++) due("none", of("river 3 3;" + flat(0, 200)).over(by, what), -2);
            }
        });
        test("NONE: no such ones.", () -> {
            for (FarewellStones s : new FarewellStones[] {of("river 1 1; depth 0 0 0;"), of("river 1 1;")}) {
                for (int odd : new int[] {-1, 2, LEAST, MOST}) {
                    due("by " + odd, s.over(odd, 0), NONE);
                    due("what " + odd, s.over(0, odd), NONE);
                    due("what " + odd, s.over(1, odd), NONE);
                }
            }
        });
    }

    private void overAt() {
        part("Promise 13:");
        test("Its i-th STEP: 100 * y + x;", () -> {
            FarewellStones s = of("river 12 8;" + flat(11, 111, 211, 311, 411, 511, 611, 711));
            for (int by = 0; by < 2; by++) {
                for (int i = 0; i < 8; i++) due("step " + i, s.overAt(by, i), 100 * i + 11);
            }
            FarewellStones two = of("river 3 3;" + flat(1, 101, 201, 100, 200)
                + "slip = if 0 < along * across then along * across * 4 else 1;");
            due("the third by 0", two.overAt(0, 2), 201);
            due("the third by 1", two.overAt(1, 2), 100);
        });
        test("NONE (looked at first): no such by, i below 0;", () -> {
            for (FarewellStones s : new FarewellStones[] {of("river 1 1; depth 0 0 0;"), of("river 1 1;")}) {
                for (int odd : new int[] {-1, 2, LEAST, MOST}) due("by " + odd, s.overAt(odd, 0), NONE);
                for (int by = 0; by < 2; by++) {
                    due("i -1", s.overAt(by, -1), NONE);
                    due("i least", s.overAt(by, LEAST), NONE);
                }
            }
        });
        test("-2 likewise;", () -> {
            for (int by = 0; by < 2; by++) {
                due("i 0", of("river 1 1;").overAt(by, 0), -2);
                due("i most", of("river 1 1;").overAt(by, MOST), -2);
            }
        });
        test("NONE: not so many.", () -> {
            for (int by = 0; by < 2; by++) {
                FarewellStones s = of("river 1 2;" + flat(0, 100));
                due("i 2 of two", s.overAt(by, 2), NONE);
                due("i most", s.overAt(by, MOST), NONE);
                due("none at once", of("river 1 1; leap 2;" + flat(0)).overAt(by, 0), NONE);
            }
        });
    }

    private void lack() {
        part("Promise 14:");
        test("LACK: what 0 how many STONES, 1 LEAPS of THE LINE;", () -> {
            FarewellStones s = of("river 2 3; depth 0 0 4; depth 1 0 3; depth 1 1 0; depth 1 2 3; leaver a 0 1 9 0;");
            due("STONES", s.lack(0), 5);
            due("LEAPS", s.lack(1), 5);
            s.hurl(0, 1, 2);
            due("as many the straight way", s.lack(0), 5);
            due("LEAPS", s.lack(1), 4);
            s.hurl(0, 1, 2);
            due("one less", s.lack(0), 4);
            due("none", of("river 1 1; depth 0 0 0;").lack(0), 0);
            due("at once", of("river 1 1; leap 2;").lack(1), 1);
        });
        test("NONE for others.", () -> {
            for (int odd : new int[] {-1, 2, LEAST, MOST}) due("what " + odd, of("").lack(odd), NONE);
        });
    }

    private void lackAt() {
        part("Promise 15:");
        test("The i-th CELL of THE LINE: 100 * y + x;", () -> {
            FarewellStones s = of("river 12 2; depth 11 0 0;");
            due("0", s.lackAt(0), 11);
            due("1", s.lackAt(1), 111);
            due("2", s.lackAt(2), NONE);
        });
        test("NONE: not so many.", () -> {
            for (int odd : new int[] {-1, 4, LEAST, MOST}) due("i " + odd, of("").lackAt(odd), NONE);
            due("the last one", of("").lackAt(3), 300);
            due("none at once", of("river 1 1; leap 2;").lackAt(0), NONE);
        });
    }

    private void grief() {
        part("Promise 16:");
        test("GRIEF of LACK;", () -> {
            due("none lacks", of("river 1 1; depth 0 0 0;").grief(), 0);
            due("0 of GRIEF", of("river 1 1; leaver a 0 1 1 0;").grief(), 0);
            due("2 at 7, 1 at 9", of("river 1 1; depth 0 0 3; leaver a 0 1 1 9; leaver b 0 1 2 7;").grief(), 23);
        });
        test("-2: it can't be.", () -> {
            due("nobody", of("river 1 1;").grief(), -2);
            due("too few", of("river 1 1; depth 0 0 3; leaver a 0 1 2 0;").grief(), -2);
            due("not today", of("river 1 1; leaver a 1 1 2 0;").grief(), -2);
            due("not there", of("river 1 1; flow 0 1; leaver a 0 1 2 0;").grief(), -2);
            due("enough for each CELL, not for both", of("river 1 2; depth 0 0 2; depth 0 1 2; leaver a 0 1 3 0;").grief(), -2);
        });
    }

    private void gives() {
        part("Promise 17:");
        test("How many STONES a LEAVER gives then;", () -> {
            FarewellStones s = of("river 1 1; depth 0 0 3; leaver a 0 1 9 9; leaver b 0 1 2 7; leaver c 9 1 9 0;");
            due("the rest", s.gives(0), 1);
            due("all he has", s.gives(1), 2);
            due("none", s.gives(2), 0);
            due("nothing lacks", of("river 1 1; depth 0 0 0; leaver a 0 1 9 9;").gives(0), 0);
        });
        test("-2 likewise;", () -> {
            FarewellStones s = of("river 1 1; depth 0 0 3; leaver a 0 1 2 0; leaver b 9 1 9 0;");
            due("a", s.gives(0), -2);
            due("b", s.gives(1), -2);
        });
        test("NONE: no such one.", () -> {
            for (String text : new String[] {"river 1 1; leaver a 0 1 9 0;", "river 1 1; leaver a 1 1 9 0;"}) {
                for (int odd : new int[] {-1, 1, 8, LEAST, MOST}) due("leaver " + odd, of(text).gives(odd), NONE);
            }
            due("none at all", of("").gives(0), NONE);
        });
    }

    private void needed() {
        part("Promise 18:");
        test("NEEDED (bits; 0 without a WAY OVER).", () -> {
            FarewellStones s = of("river 1 2;" + eight());
            s.hurl(1, 0, 0);
            due("without", s.needed(), 0);
            s.hurl(6, 0, 1);
            due("bits 1 and 6", s.needed(), 66);
            s.hurl(7, 0, 1);
            due("bit 1", s.needed(), 2);
            due("nobody's", of("river 1 1; depth 0 0 0;" + eight()).needed(), 0);
        });
    }

    private void alone() {
        part("Promise 19:");
        test("ALONE (bits).", () -> {
            FarewellStones s = of("river 2 1; depth 0 0 2;" + eight());
            hurl(s, 7, 0, 0, 2);
            due("bit 7", s.alone(), 128);
            s.hurl(0, 0, 0);
            due("not with one of two", s.alone(), 128);
            s.hurl(0, 1, 0);
            due("bits 0 and 7", s.alone(), 129);
            due("none", of(eight()).alone(), 0);
        });
    }

    private void breaks() {
        part("Promise 20:");
        String river = "river 3 1; leaver a 0 1 9 0; carry = 1;";
        test("BREAKS: the day;", () -> {
            FarewellStones s = of(river + "flood 0 3; flood 30 3;");
            s.hurl(0, 0, 0);
            due("0", s.breaks(), 0);
            s.undo();
            s.days(20);
            s.hurl(0, 0, 0);
            due("not in how many days", s.breaks(), 30);
        });
        test("-2: not in 200 days;", () -> {
            FarewellStones s = of(river + "flood 7 2;");
            s.hurl(0, 0, 0);
            due("carried, not off", s.breaks(), -2);
            due("no FLOOD", of("river 1 1; depth 0 0 0;").breaks(), -2);
        });
        test("-3: there is no WAY OVER now.", () -> {
            FarewellStones s = of("river 3 1; depth 0 0 9; depth 1 0 9; leaver a 0 1 9 0; carry = 1; flood 7 2;");
            s.hurl(0, 0, 0);
            due("now, though one day there will be", s.breaks(), -3);
            s.days(8);
            due("there is", s.breaks(), -2);
        });
    }

    private void fords() {
        part("Promise 21:");
        test("SECOND FORD.", () -> {
            due("0", of("").fords(), 0);
            due("1", of("river 2 2;" + flat(0, 1, 101)).fords(), 1);
            due("2", of("river 2 2;" + flat(0, 1, 100, 101)).fords(), 2);
            due("at once", of("river 2 1; leap 2;").fords(), -2);
        });
    }

    private void tell() {
        part("Promise 22:");
        test("It is TOLD: its number;", () -> {
            FarewellStones s = of("river 3 2;");
            for (int i = 0; i < 20; i++) due("tell " + i, s.tell(i % 3, i % 2, 5 * i), i);
            due("no thing done", s.count(10), 0);
        });
        test("NONE, and nothing happens: 20 are there, no such ones.", () -> {
            FarewellStones s = of("river 3 2;");
            for (int odd : ODD) {
                due("x " + odd, s.tell(odd, 0, 0), NONE);
                due("y " + odd, s.tell(0, odd, 0), NONE);
                due("stones " + odd, s.tell(0, 0, odd), NONE);
            }
            due("x 3", s.tell(3, 0, 0), NONE);
            due("y 2", s.tell(0, 2, 0), NONE);
            due("stones 100", s.tell(0, 0, 100), NONE);
            due("nothing happened", s.count(11), 0);
            for (int i = 0; i < 20; i++) s.tell(2, 1, 99);
            String before = all(s);
            due("20 are there", s.tell(0, 0, 0), NONE);
            same("nothing happened", s, before);
        });
    }

    private void forget() {
        part("Promise 23:");
        test("All that was TOLD is forgotten: how many there were.", () -> {
            FarewellStones s = of("river 3 2; leaver a 0 1 9 0;");
            due("none", s.forget(), 0);
            for (int i = 0; i < 20; i++) s.tell(0, 0, 1);
            due("20", s.forget(), 20);
            due("none are there", s.count(11), 0);
            due("none KNOWN", s.fits(0, 1, 0, -1), NONE);
            due("numbers begin anew", s.tell(1, 0, 0), 0);
            due("one", s.forget(), 1);
            due("none again", s.forget(), 0);
        });
    }

    private void fits() {
        part("Promise 24:");
        test("FITS, as KNOWN by k, behind n days: how many CELLS (i NONE), else the i-th by y, then x: 100 * y + x;", () -> {
            FarewellStones s = of("river 12 2; leaver a 0 1 9 0;");
            s.tell(3, 0, 0);
            due("how many", s.fits(0, 1, 0, NONE), 23);
            due("0", s.fits(0, 1, 0, 0), 0);
            due("3", s.fits(0, 1, 0, 3), 4);
            due("10", s.fits(0, 1, 0, 10), 11);
            due("11", s.fits(0, 1, 0, 11), 100);
            due("22", s.fits(0, 1, 60, 22), 111);
        });
        test("NONE: no such ones, he may not, not so many.", () -> {
            FarewellStones s = of("river 2 2; leaver a 0 1 1 0; leaver b 1 1 1 0;");
            s.tell(0, 0, 0);
            for (int odd : ODD) {
                due("leaver " + odd, s.fits(odd, 0, 0, -1), NONE);
                due("k " + odd, s.fits(0, odd, 0, -1), NONE);
                due("n " + odd, s.fits(0, 0, odd, -1), NONE);
            }
            due("leaver 2", s.fits(2, 0, 0, -1), NONE);
            due("k 2 of one", s.fits(0, 2, 0, -1), NONE);
            due("n 61", s.fits(0, 0, 61, -1), NONE);
            for (int i : new int[] {-2, 4, LEAST, MOST}) due("i " + i, s.fits(0, 0, 0, i), NONE);
            due("the last one", s.fits(0, 0, 0, 3), 101);
            due("not today", s.fits(1, 0, 0, -1), NONE);
            s.hurl(0, 0, 0);
            due("none left", s.fits(0, 0, 0, -1), NONE);
            due("how many: 0", fitsNowhere(), 0);
        });
    }

    private static int fitsNowhere() {
        FarewellStones s = of("river 1 1; leaver a 0 1 1 0;");
        s.tell(0, 0, 0);
        return s.fits(0, 1, 0, NONE);
    }

    private void hold() {
        part("Promise 25:");
        test("STONES, MOSS, the day are held in a SLOT (0 .. 2): true;", () -> {
            FarewellStones s = of("river 3 1; flow 0 1; leaver a 0 1 9 0;");
            String[] held = new String[3];
            for (int slot = 0; slot < 3; slot++) {
                s.hurl(0, slot, 0);
                s.days(slot + 1);
                due("hold " + slot, s.hold(slot), true);
                held[slot] = state(s);
            }
            s.days(9);
            for (int slot = 2; slot >= 0; slot--) {
                s.restore(slot);
                due("what was held in " + slot, state(s).equals(held[slot]), true);
            }
            s.hurl(0, 0, 0);
            due("held anew", s.hold(2), true);
            String anew = state(s);
            s.restore(1);
            s.restore(2);
            due("in place of the one ahead", state(s).equals(anew), true);
            due("three at most", s.count(12), 3);
        });
        test("false: no such one.", () -> {
            FarewellStones s = of("");
            for (int odd : ODD) due("hold " + odd, s.hold(odd), false);
            due("hold 3", s.hold(3), false);
            due("none holds", s.count(12), 0);
        });
    }

    /** STONES, MOSS, the day, without what can be undone. */
    private static String state(FarewellStones s) {
        StringBuilder state = new StringBuilder();
        for (int what = 5; what < 9; what++) state.append(s.count(what)).append(' ');
        for (int x = 0; x < s.count(0); x++) {
            for (int what = 0; what < 6; what++) state.append(s.cell(x, 0, what)).append(' ');
            for (int i = 0; i < s.cell(x, 0, 0); i++) state.append(s.stone(x, 0, i)).append(' ');
        }
        for (int what = 0; what < 5; what++) state.append(s.leaver(0, what)).append(' ');
        return state.toString();
    }

    private void restore() {
        part("Promise 26:");
        test("They go on from what a SLOT holds (that stays there; nothing can be undone then): true;", () -> {
            FarewellStones s = of("river 3 1; leaver a 0 1 9 0; flood 5 1; carry = 1;");
            hurl(s, 0, 0, 0, 2);
            s.days(4);
            s.hold(2);
            s.tell(0, 0, 0);
            s.hurl(0, 0, 0);
            s.days(3);
            due("restore", s.restore(2), true);
            due("day", s.count(5), 4);
            due("STONES", s.cell(0, 0, 0), 2);
            due("MOSS", s.cell(0, 0, 2), 4);
            due("nothing can be undone", s.undo(), false);
            due("TOLD stays", s.count(11), 1);
            due("they go on", s.days(2), 6);
            due("by the FLOOD of day 5", s.cell(1, 0, 0), 1);
            due("undone to there", s.undo(), true);
            due("day", s.count(5), 4);
            s.hurl(0, 2, 0);
            due("again", s.restore(2), true);
            due("that stays there", s.count(6), 2);
            due("holds", s.count(12), 1);
        });
        test("false, and nothing happens: no such one, nothing is held.", () -> {
            FarewellStones s = of("river 3 1; leaver a 0 1 9 0;");
            s.hurl(0, 0, 0);
            s.hold(1);
            s.days(2);
            String before = all(s);
            for (int odd : ODD) due("restore " + odd, s.restore(odd), false);
            for (int slot : new int[] {0, 2, 3}) due("restore " + slot, s.restore(slot), false);
            same("nothing happened", s, before);
            due("undo", s.undo(), true);
        });
    }

    private void countOfText() {
        part("Promise 27:");
        test("0 LONG, 1 WIDE, 2 LEAP, 3 LEAVERS, 4 FLOODS, 5 the day,", () -> {
            FarewellStones s = of("river 1 2; leap 3;");
            FarewellStones most = of("river 12 8; leap 4;" + eight() + "flood 1 1;".repeat(8));
            most.days(100);
            int[] few = {1, 2, 3, 0, 0, 0};
            int[] many = {12, 8, 4, 8, 8, 100};
            for (int what = 0; what < 6; what++) {
                due("few " + what, s.count(what), few[what]);
                due("many " + what, most.count(what), many[what]);
            }
        });
    }

    private void countOfStones() {
        test("6 STONES in the RIVER, 7 those that are lost, 8 STEPS,", () -> {
            FarewellStones s = of("river 12 8; carry = 1; flood 0 12;" + eight() + depths(12, new int[20]));
            int[] none = {0, 0, 20};
            for (int what = 6; what < 9; what++) due("none thrown " + what, s.count(what), none[what - 6]);
            for (int i = 0; i < 72; i++) s.hurl(i / 9, (i + 20) % 12, (i + 20) / 12);
            int[] all = {72, 0, 92};
            for (int what = 6; what < 9; what++) due("all thrown " + what, s.count(what), all[what - 6]);
            s.days(1);
            int[] lost = {0, 72, 20};
            for (int what = 6; what < 9; what++) due("all lost " + what, s.count(what), lost[what - 6]);
            FarewellStones river = of("river 3 1; flow 0 1; depth 0 0 2; leaver a 0 1 9 0;");
            river.hurl(0, 0, 0);
            river.hurl(0, 0, 0);
            river.hurl(0, 2, 0);
            int[] some = {2, 1, 1};
            for (int what = 6; what < 9; what++) due("some " + what, river.count(what), some[what - 6]);
        });
    }

    private void countOfCalls() {
        test("9 bytes on the tape, 10 things that can be undone, 11 TOLD ones, 12 SLOTS that hold something.", () -> {
            FarewellStones s = of("river 3 1; leaver a 0 1 9 0;");
            for (int what = 9; what < 13; what++) due("none " + what, s.count(what), 0);
            for (int i = 1; i <= 100; i++) s.feed(0, 0, 0, 0, 0);
            due("bytes", s.count(9), 2000);
            s.back(3);
            due("bytes", s.count(9), 1997);
            for (int i = 1; i <= 27; i++) {
                s.days(1);
                due("things", s.count(10), Math.min(25, i));
            }
            s.undo();
            due("things", s.count(10), 24);
            for (int i = 1; i <= 21; i++) {
                s.tell(0, 0, 0);
                due("TOLD", s.count(11), Math.min(20, i));
            }
            for (int slot = 2; slot >= 0; slot--) {
                for (int i = 0; i < 2; i++) s.hold(slot);
                due("SLOTS", s.count(12), 3 - slot);
            }
            s.restore(0);
            due("things behind restore", s.count(10), 0);
        });
        test("NONE for others.", () -> {
            for (int odd : ODD) due("count " + odd, of("").count(odd), NONE);
            due("count 13", of("").count(13), NONE);
        });
    }

    private void manyCalls() {
        part("What it is");
        test("A river that is crossed by stones which those throw in who leave: cells with depth, rows with flow, floods by days,"
            + " leavers with their stones; laws of what a flood carries and of how slippery a step is, told as texts; stones"
            + " that drift, heap up, are carried off, each led to who threw it; moss by days; who gets over by how many leaps,"
            + " safest, by whose stones alone; the fewest farewells still needed and where, who must leave for it at the least"
            + " grief; when the bridge breaks; whose stone was it, from stones that were found; a second ford apart from the"
            + " first; all undone, held, gone on from.", () -> {
            FarewellStones s = of("river 2 2; leaver a 0 1 9 3; flood 1 1; carry = 1;");
            s.hurl(0, 0, 0);
            s.hold(0);
            due("who must leave, where", s.lackAt(1), 100);
            due("grief", s.grief(), 3);
            s.hurl(0, 0, 1);
            due("who gets over", s.over(0, 0), 3);
            due("carried", s.breaks(), -2);
            due("days", s.days(3), 3);
            due("carried along", s.cell(1, 1, 5), 0);
            due("gone on from", s.restore(0), true);
            due("day", s.count(5), 0);
        });
        test("An object is used for at most 512 calls after it has been made;", () -> {
            FarewellStones s = new FarewellStones();
            for (int day = 1; day <= 511; day++) due("day", s.days(100), 100 * day);
            due("the 512th", s.count(5), 51100);
        });
        test("what later calls answer is free.", () -> {
            FarewellStones s = new FarewellStones();
            for (int i = 0; i < 600; i++) s.days(0);
            s.count(5);
        });
    }
}
