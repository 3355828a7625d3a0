import java.io.IOException;
import java.util.ArrayList;
import java.util.List;

/** Terms II: STONES, days, LAWS, LEAPS, the WAY OVER. */
public final class DaySentencesTest extends Sentences {
    private static final String MANY = "river 12 8;" + eight();

    private DaySentencesTest() throws IOException {
        super("DaySentencesTest");
    }

    public static void main(String[] args) throws IOException {
        DaySentencesTest tests = new DaySentencesTest();
        tests.part("II");
        tests.stones();
        tests.steps();
        tests.moss();
        tests.floods();
        tests.whatGoes();
        tests.laws();
        tests.numbers();
        tests.vars();
        tests.slippery();
        tests.leaps();
        tests.banks();
        tests.waysOver();
        tests.ofAlikeOnes();
        tests.end();
    }

    /** Whose STONES lie on a CELL, from the lowest on. */
    private void pile(String what, FarewellStones s, int x, int y, int... whose) {
        due(what + ": how many", s.cell(x, y, 0), whose.length);
        for (int i = 0; i < whose.length; i++) due(what + ": stone " + i, s.stone(x, y, i), whose[i]);
        due(what + ": no more", s.stone(x, y, whose.length), NONE);
    }

    private void stones() {
        test("STONES lie on CELLS one on the other.", () -> {
            FarewellStones s = of("river 2 1; leaver a 0 1 9 0; leaver b 0 1 9 0;");
            pile("empty", s, 0, 0);
            for (int who : new int[] {1, 0, 0, 1}) s.hurl(who, 0, 0);
            pile("as thrown", s, 0, 0, 1, 0, 0, 1);
            pile("beside", s, 1, 0);
        });
        test("THROWN at a CELL by a LEAVER: it drifts FLOW of its row by SIZE, rounded down, CELLS to greater x,"
            + " and lies there on top;", () -> {
            FarewellStones s = of("river 12 2; flow 1 8; leaver a 0 1 9 0; leaver b 0 3 9 0; leaver c 0 8 9 0;"
                + "leaver d 0 9 9 0;");
            due("8 by 1", s.hurl(0, 0, 1), 1108);
            due("8 by 3", s.hurl(1, 0, 1), 1102);
            due("8 by 8", s.hurl(2, 7, 1), 1108);
            due("8 by 9", s.hurl(3, 8, 1), 1108);
            due("the other row", s.hurl(0, 8, 0), 1008);
            pile("on top", s, 8, 1, 0, 2, 3);
        });
        test("beyond the RIVER it is lost.", () -> {
            FarewellStones s = of("river 5 1; flow 0 3; leaver a 0 1 9 0;");
            due("the last CELL", s.hurl(0, 1, 0), 1004);
            due("beyond", s.hurl(0, 2, 0), -2);
            due("far beyond", s.hurl(0, 4, 0), -2);
            due("lost", s.count(7), 2);
            due("lying", s.count(6), 1);
        });
    }

    private void steps() {
        test("A CELL is a STEP if it has as many STONES as it is deep, or more.", () -> {
            FarewellStones s = of("river 2 1; depth 0 0 2; depth 1 0 0; leaver a 0 1 9 0;");
            int[] step = {0, 0, 1, 1};
            for (int stones = 0; stones < 4; stones++) {
                due("with " + stones, s.cell(0, 0, 3), step[stones]);
                s.hurl(0, 0, 0);
            }
            due("0 deep, none", s.cell(1, 0, 3), 1);
        });
    }

    private void moss() {
        test("A DAY: MOSS of each CELL with a STONE is 1 more (99 at most; 0 without STONES, and when a STONE comes or"
            + " goes there);", () -> {
            FarewellStones s = of("river 3 1; leaver a 0 1 9 0; carry = if moss < 3 then 0 else 1; flood 2 1;");
            hurl(s, 0, 0, 0, 2);
            s.hurl(0, 1, 0);
            due("no day", s.cell(0, 0, 2), 0);
            s.days(1);
            due("a day", s.cell(0, 0, 2), 1);
            due("without STONES", s.cell(2, 0, 2), 0);
            s.days(1);
            s.hurl(0, 1, 0);
            due("one comes, thrown", s.cell(1, 0, 2), 0);
            due("elsewhere", s.cell(0, 0, 2), 2);
            s.days(1);
            due("one goes, others stay", s.cell(0, 0, 0), 1);
            due("one goes", s.cell(0, 0, 2), 0);
            due("one comes, carried", s.cell(1, 0, 2), 0);
            s.days(98);
            due("98", s.cell(0, 0, 2), 98);
            s.days(1);
            due("99", s.cell(0, 0, 2), 99);
            s.days(1);
            due("99 at most", s.cell(0, 0, 2), 99);
            s.days(100);
            due("99 for long", s.cell(0, 0, 2), 99);
            s.hurl(0, 0, 0);
            due("one comes to 99", s.cell(0, 0, 2), 0);
            mossWithoutStones();
            lostOneLeavesMoss();
        });
    }

    private void mossWithoutStones() {
        FarewellStones s = of("river 2 1; leaver a 0 1 9 0; carry = stones; flood 3 2;");
        s.hurl(0, 1, 0);
        s.days(3);
        due("before it goes", s.cell(1, 0, 2), 3);
        s.days(1);
        due("the last one goes", s.cell(1, 0, 2), 0);
        s.days(5);
        due("without STONES for days", s.cell(1, 0, 2), 0);
        s.hurl(0, 1, 0);
        s.days(1);
        due("a day after", s.cell(1, 0, 2), 1);
    }

    private void lostOneLeavesMoss() {
        FarewellStones s = of("river 2 1; flow 0 1; leaver a 0 1 9 0;");
        s.hurl(0, 0, 0);
        s.days(4);
        due("lost", s.hurl(0, 1, 0), -2);
        due("where it was thrown at no STONE came", s.cell(1, 0, 2), 4);
    }

    private void floods() {
        test("then each FLOOD of that day, as told:", () -> {
            // MOSS of the day is there when the FLOOD comes.
            FarewellStones s = of("river 9 1; leaver a 0 1 9 0; carry = if moss < 1 then 0 else 1; flood 0 2;");
            s.hurl(0, 0, 0);
            s.days(1);
            due("by MOSS", s.cell(2, 0, 0), 1);
            FarewellStones other = of("river 9 1; leaver a 0 1 9 0; carry = 1; flood 1 2;");
            other.hurl(0, 0, 0);
            other.days(1);
            due("of another day", other.cell(0, 0, 0), 1);
            other.days(1);
            due("of that day", other.cell(2, 0, 0), 1);
            other.days(1);
            due("of a day gone by", other.cell(2, 0, 0), 1);
            String twice = "river 9 1; leaver a 0 1 9 0; carry = if along < 1 then 1 else if along - 3 < 0 then 0 else 1;";
            FarewellStones first = of(twice + "flood 0 3; flood 0 1;");
            first.hurl(0, 0, 0);
            first.days(1);
            due("by 3, then by 1", first.cell(4, 0, 0), 1);
            FarewellStones second = of(twice + "flood 0 1; flood 0 3;");
            second.hurl(0, 0, 0);
            second.days(1);
            due("by 1, then not by 3", second.cell(1, 0, 0), 1);
            FarewellStones alike = of("river 9 1; leaver a 0 1 9 0; carry = 1; flood 0 1; flood 0 1; flood 0 1;");
            alike.hurl(0, 0, 0);
            alike.days(1);
            due("three alike ones", alike.cell(3, 0, 0), 1);
        });
        test("row by row, in each from the greatest x down:", () -> {
            FarewellStones s = of("river 4 2; leaver a 0 1 9 0; leaver b 0 1 9 0; carry = 9; flood 0 1;");
            s.hurl(0, 0, 0);
            s.hurl(1, 1, 0);
            s.hurl(0, 3, 0);
            s.hurl(1, 0, 1);
            s.days(1);
            pile("0 0", s, 0, 0);
            pile("1 0", s, 1, 0, 0);
            pile("2 0", s, 2, 0, 1);
            pile("3 0", s, 3, 0);
            pile("1 1", s, 1, 1, 1);
            due("lost", s.count(7), 1);
        });
    }

    /** Three STONES on 0, 0: how many of them a LAW carries on by one. */
    private void carried(String law, int want) {
        FarewellStones s = of("river 3 1; leaver a 0 1 3 0; flood 0 1; carry = " + law + ";");
        hurl(s, 0, 0, 0, 3);
        s.days(1);
        due(law + " stay", s.cell(0, 0, 0), 3 - want);
        due(law + " go", s.cell(1, 0, 0), want);
    }

    private void whatGoes() {
        test("of each CELL so many of its upper STONES as CARRY tells, held to 0 .. all of them,", () -> {
            int[] want = {0, 1, 2, 3, 3};
            for (int told = 0; told < 5; told++) carried(Integer.toString(told), want[told]);
            carried("9999 * 9999", 3);
            carried("0 - 1", 0);
            carried("0 - 9999 * 9999", 0);
            carried("stones", 3);
            // 2147483648 wraps to what is less than 0.
            carried("2048 * 1024 * 1024", 0);
            FarewellStones each = of("river 4 1; leaver a 0 1 9 0; flood 0 1; carry = along;");
            for (int x = 0; x < 3; x++) hurl(each, 0, x, 0, 2);
            each.days(1);
            int[] heights = {2, 1, 1, 2};
            for (int x = 0; x < 4; x++) due("of each " + x, each.cell(x, 0, 0), heights[x]);
        });
        test("go FORCE CELLS to greater x, on top of what lies there, in the order in which they lay;", () -> {
            FarewellStones s = of("river 4 1; leaver a 0 1 9 0; leaver b 0 1 9 0; leaver c 0 1 9 0; flood 0 3;"
                + "carry = if along < 1 then 3 else 0;");
            for (int who : new int[] {1, 0, 1, 2, 0}) s.hurl(who, 0, 0);
            s.hurl(2, 3, 0);
            s.days(1);
            pile("what stays", s, 0, 0, 1, 0);
            pile("what goes", s, 3, 0, 2, 1, 2, 0);
            FarewellStones all = of("river 4 1; leaver a 0 1 9 0; leaver b 0 1 9 0; flood 0 3; flood 1 3; carry = 4 - along;");
            for (int who : new int[] {1, 0, 1}) all.hurl(who, 0, 0);
            all.days(1);
            pile("all go", all, 3, 0, 1, 0, 1);
            all.days(1);
            pile("the upper one is lost", all, 3, 0, 1, 0);
            due("whose", all.leaver(1, 2), 1);
        });
        test("those beyond the RIVER are lost.", () -> {
            FarewellStones s = of("river 4 1; leaver a 0 1 9 0; leaver b 0 1 9 0; flood 0 2; carry = 2;");
            for (int who : new int[] {0, 1, 1}) s.hurl(who, 2, 0);
            s.hurl(0, 3, 0);
            s.hurl(1, 1, 0);
            s.days(1);
            pile("the last CELL", s, 3, 0, 1);
            pile("what stays", s, 2, 0, 0);
            due("lost by a", s.leaver(0, 2), 1);
            due("lost by b", s.leaver(1, 2), 2);
            FarewellStones far = of("river 1 1; leaver a 0 1 9 0; flood 0 12; carry = 9;");
            hurl(far, 0, 0, 0, 9);
            far.days(1);
            due("all, far beyond", far.leaver(0, 2), 9);
            due("none left, none lying", far.leaver(0, 0) + far.leaver(0, 1), 0);
        });
        test("Then it is the next day.", () -> {
            FarewellStones s = of("flood 0 1; flood 1 1;");
            for (int day = 0; day < 4; day++) {
                due("day", s.count(5), day);
                s.days(1);
            }
        });
    }

    /** What SLIP tells of the CELL 2, 1 that is 1 deep, has 3 STONES and 4 of MOSS. */
    private void law(String law, int want) {
        FarewellStones s = of("river 3 2; leaver a 0 1 9 0; slip = " + law + ";");
        hurl(s, 0, 2, 1, 3);
        s.days(4);
        due(law, s.cell(2, 1, 4), want);
    }

    private void laws() {
        test("LAWS: the E of the first if that holds (one less than the other), else the last one;", () -> {
            law("7", 7);
            law("if 1 < 2 then 30 else 40", 30);
            law("if 2 < 2 then 30 else 40", 40);
            law("if 3 < 2 then 30 else 40", 40);
            law("if 0 - 1 < 0 then 30 else 40", 30);
            law("if 1 < 2 then 30 else if 1 < 2 then 50 else 60", 30);
            law("if 2 < 1 then 30 else if 1 < 2 then 50 else 60", 50);
            law("if 2 < 1 then 30 else if 3 < 2 then 50 else if 1 < 2 then 60 else if 1 < 2 then 65 else 70", 60);
            law("if 2 < 1 then 30 else if 3 < 2 then 50 else if 4 < 2 then 60 else if 1 < 2 then 65 else 70", 65);
            law("if 2 < 1 then 30 else if 3 < 2 then 50 else if 4 < 2 then 60 else if 1 < 0 then 65 else 70", 70);
            law("2 + 3 * 4 - 6 / 2", 11);
            law("(2 + 3) * 4", 20);
            law("20 - 3 - 4", 13);
            law("20 - (3 - 4)", 21);
            law("60 / 5 / 2", 6);
            law("60 / 5 * 2", 24);
            law("2 * 7 / 4", 3);
            law("7 / 4 * 2", 2);
            law("((((((stones))))))", 3);
            law("1+(2+(3+(4+(5+(6+(7))))))", 28);
            law("if 1*(1-2*(1-2*(1-2*(1-2*(1-2*(1-2*3)))))) < 0-1 then 8 else 9", 9);
        });
    }

    private void numbers() {
        test("ints of 32 bits that wrap,", () -> {
            // 4999000050 wraps to 704032754, 2199560022 to -2095407274
            law("9999 * 9999 * 50 / 9999 / 1000", 70);
            law("9999 * 9999 * 22 / 9999 / 9999 + 50", 30);
            law("if 2048 * 1024 * 1024 < 0 then 30 else 40", 30);
            law("if 2048 * 1024 * 1024 - 1 < 0 then 30 else 40", 40);
            law("if 2048 * 1024 * 1024 - 1 + 1 < 0 then 30 else 40", 30);
            law("if 2048 * 1024 * 1024 / (0 - 1) < 0 then 30 else 40", 30);
            law("4096 * 1024 * 1024 + 5", 5);
        });
        test("/ rounded towards 0;", () -> {
            law("7 / 2", 3);
            law("(0 - 7) / 2 + 10", 7);
            law("7 / (0 - 2) + 10", 7);
            law("(0 - 7) / (0 - 2)", 3);
            law("(0 - 1) / 2 + 10", 10);
            law("0 / 5", 0);
        });
        test("a LAW in which something that is looked at is divided by 0 is 0.", () -> {
            law("1 / 0 + 50", 0);
            law("0 / 0 + 50", 0);
            law("50 + 0 * (1 / 0)", 0);
            law("50 / (stones - 3)", 0);
            law("if 1 < 2 then 30 else 1 / 0", 30);
            law("if 1 < 2 then 1 / 0 else 30", 0);
            law("if 2 < 1 then 1 / 0 else 40", 40);
            law("if 1 / 0 < 1 then 50 else 60", 0);
            law("if 1 < 1 / 0 then 50 else 60", 0);
            law("if 1 < 2 then 50 else if 1 / 0 < 2 then 60 else 70", 50);
            law("if 2 < 1 then 30 else if 3 / 0 < 2 then 50 else 70", 0);
            carried("2 / 0 + 2", 0);
        });
    }

    private void vars() {
        test("stones: how many lie on the CELL;", () -> {
            law("stones", 3);
            carried("stones - 1", 2);
            FarewellStones s = of("depth 0 0 0; slip = stones + 5;");
            due("none", s.cell(0, 0, 4), 5);
        });
        test("deep: its DEPTH;", () -> {
            law("deep", 1);
            carried("deep", 1);
            due("0", of("depth 0 0 0; slip = 10 - deep;").cell(0, 0, 4), 10);
            FarewellStones deep = of("depth 0 0 9; slip = deep; leaver a 0 1 9 0;");
            hurl(deep, 0, 0, 0, 9);
            due("9", deep.cell(0, 0, 4), 9);
        });
        test("force: of the FLOOD (SLIP: 0);", () -> {
            FarewellStones s = of("river 9 1; leaver a 0 1 9 0; carry = force; flood 0 2; flood 1 1;");
            hurl(s, 0, 0, 0, 5);
            s.days(1);
            due("2", s.cell(2, 0, 0), 2);
            s.days(1);
            due("1", s.cell(1, 0, 0), 1);
            law("force + 5", 5);
            // Not what the latest FLOOD had
            FarewellStones slip = of("river 9 1; depth 0 0 0; carry = force; slip = force; flood 0 2;"
                + "leaver a 0 1 9 0;");
            slip.hurl(0, 1, 0);
            slip.days(1);
            due("SLIP behind a FLOOD", slip.cell(0, 0, 4), 0);
        });
        test("moss;", () -> {
            law("moss", 4);
            carried("moss", 1);
            FarewellStones s = of("leaver a 0 1 9 0; slip = moss;");
            s.hurl(0, 0, 0);
            due("0", s.cell(0, 0, 4), 0);
            s.days(100);
            due("99", s.cell(0, 0, 4), 99);
        });
        test("across: its y;", () -> {
            law("across * 10", 10);
            due("0", of("depth 3 0 0; slip = across;").cell(3, 0, 4), 0);
            due("7", of("river 12 8; depth 3 7 0; slip = across;").cell(3, 7, 4), 7);
        });
        test("along: its x.", () -> {
            law("along * 10", 20);
            due("0", of("depth 0 3 0; slip = along;").cell(0, 3, 4), 0);
            due("11", of("river 12 8; depth 11 3 0; slip = along;").cell(11, 3, 4), 11);
        });
    }

    private void slippery() {
        test("SLIPPERY: what SLIP tells of a STEP, held to 0 .. 100.", () -> {
            law("0 - 1", 0);
            law("0", 0);
            law("1", 1);
            law("99", 99);
            law("100", 100);
            law("101", 100);
            law("2048 * 1024 * 1024", 0);
            law("2048 * 1024 * 1024 - 1", 100);
            due("no STEP", of("slip = 5;").cell(0, 0, 4), -2);
            // Held each by itself before they are added
            FarewellStones sum = of("river 1 3; depth 0 0 0; depth 0 1 0; depth 0 2 0;"
                + "slip = if across < 1 then 0 - 50 else across * 90;");
            due("sum", sum.over(0, 1), 190);
        });
    }

    private void leaps() {
        test("A LEAP: from a STEP to another one no more than LEAP apart (by x and by y together);", () -> {
            for (int leap = 1; leap <= 4; leap++) {
                for (int near = 0; near < leap; near++) {
                    for (int far = leap; far < 2 * leap; far++) {
                        for (int x = 0; x <= 11; x++) leapBetween(leap, near, x, far);
                    }
                }
            }
            for (int leap = 1; leap <= 3; leap++) leapAlongRow(leap);
            int[] there = {0, 100, 200, 201, 202, 102, 103, 104, 204, 304};
            int[] mirrored = {4, 104, 204, 203, 202, 102, 101, 100, 200, 300};
            way("winding to greater x", of("river 5 4;" + flat(there)), 0, 0, there);
            way("winding to lesser x", of("river 5 4;" + flat(mirrored)), 1, 0, mirrored);
            leadsOver("winding to greater x", of("river 5 4;" + flat(there)), 11);
            leadsOver("winding to lesser x", of("river 5 4;" + flat(mirrored)), 11);
            longest();
        });
    }

    /** From 5, near to x, far in a RIVER so wide that there is a WAY OVER by both of them or none. */
    private void leapBetween(int leap, int near, int x, int far) {
        FarewellStones s = of("river 12 " + 2 * leap + "; leap " + leap + "; depth 5 " + near + " 0; depth " + x + " " + far
            + " 0;");
        boolean over = Math.abs(x - 5) + far - near <= leap;
        leadsOver("leap " + leap + " from 5 " + near + " to " + x + " " + far, s, over ? 3 : -2);
    }

    /** The one WAY OVER has so many LEAPS (or -2), for all that looks for one. */
    private void leadsOver(String what, FarewellStones s, int leaps) {
        due(what + ": leaps", s.over(0, 0), leaps);
        due(what + ": fords", s.fords(), leaps < 0 ? 0 : 1);
        due(what + ": breaks", s.breaks(), leaps < 0 ? -3 : -2);
        due(what + ": none lacks", s.lack(0) == 0, leaps >= 0);
    }

    /** To and fro along three rows of the longest and widest RIVER. */
    private void longest() {
        FarewellStones s = of(MANY + "slip = 100;");
        int[] way = toAndFro();
        due("steps", way.length, 41);
        layOn(s, way);
        for (int by = 0; by < 2; by++) way("longest", s, by, 4100, way);
        leadsOver("longest", s, 42);
    }

    private static int[] toAndFro() {
        List<Integer> way = new ArrayList<>();
        for (int y = 0; y < 8; y++) {
            for (int i = 0; i < 12; i++) {
                int x = y % 4 == 1 || y % 4 == 2 ? i : 11 - i;
                boolean edge = y % 4 == 0 ? x == 0 : x == 11;
                if (y % 2 == 1 && y < 7 || edge) way.add(100 * y + x);
            }
        }
        return way.stream().mapToInt(at -> at).toArray();
    }

    private static void layOn(FarewellStones s, int... cells) {
        for (int at : cells) {
            int who = s.count(6) / 9;
            s.hurl(who, at % 100, at / 100);
        }
    }

    /** Far from both banks, from 5, leap to 5 more or less by LEAP, or by one more. */
    private void leapAlongRow(int leap) {
        for (int x : new int[] {5 - leap - 1, 5 - leap, 5 + leap, 5 + leap + 1}) {
            FarewellStones s = of("river 12 " + (2 * leap + 1) + "; leap " + leap + ";"
                + flat(100 * (leap - 1) + 5, 100 * leap + 5, 100 * leap + x, 100 * (leap + 1) + x));
            leadsOver("leap " + leap + " along the row to " + x, s, Math.abs(x - 5) <= leap ? 5 : -2);
        }
    }

    private void banks() {
        test("from the near bank to STEPS with y + 1 no more than LEAP,", () -> {
            for (int leap = 1; leap <= 4; leap++) {
                for (int y = 0; y < 5; y++) {
                    // From y it is no more than LEAP to the far bank, if one gets to y at all.
                    FarewellStones s = of("river 3 " + Math.max(leap, y + leap) + "; leap " + leap + "; depth 1 " + y + " 0;");
                    due("leap " + leap + " to y " + y, s.over(0, 0), y + 1 <= leap ? 2 : -2);
                }
            }
        });
        test("to the far bank from those with WIDE - y no more;", () -> {
            for (int leap = 1; leap <= 4; leap++) {
                for (int across = leap; across <= 8; across++) {
                    int y = leap - 1;
                    FarewellStones s = of("river 3 " + across + "; leap " + leap + "; depth 1 " + y + " 0;");
                    due("leap " + leap + " from y " + y + " of " + across, s.over(0, 0), across - y <= leap ? 2 : -2);
                }
            }
        });
        test("if WIDE is less than LEAP, at once from bank to bank.", () -> {
            for (int leap = 1; leap <= 4; leap++) {
                for (int across = 1; across <= 5; across++) {
                    FarewellStones s = of("river 3 " + across + "; leap " + leap + ";");
                    due("leap " + leap + " over " + across, s.over(0, 0), across < leap ? 1 : -2);
                }
            }
        });
    }

    /** The WAY OVER by 0 or 1: its LEAPS, its sum, its STEPS. */
    private void way(String what, FarewellStones s, int by, int sum, int... steps) {
        due(what + ": leaps", s.over(by, 0), steps.length + 1);
        due(what + ": sum", s.over(by, 1), sum);
        for (int i = 0; i < steps.length; i++) due(what + ": step " + i, s.overAt(by, i), steps[i]);
        due(what + ": no more", s.overAt(by, steps.length), NONE);
    }

    private void waysOver() {
        String longer = "river 3 3; depth 1 0 0; depth 1 1 0; depth 1 2 0; depth 0 1 0; depth 0 2 0;"
            + "slip = if 0 < along * across then along * across * 4 else 1;";
        test("WAY OVER: by 0 the fewest LEAPS, of alike ones the least sum of what is SLIPPERY on its STEPS;", () -> {
            // 1,0 1,1 1,2: 1 + 4 + 8
            way("fewest leaps", of(longer), 0, 13, 1, 101, 201);
            FarewellStones two = of("river 4 3; depth 1 0 0; depth 1 1 0; depth 1 2 0; depth 3 0 0; depth 3 1 0; depth 3 2 0;"
                + "slip = if along < 2 then 20 else across + along;");
            way("least sum", two, 0, 12, 3, 103, 203);
            // 100 on each of ten STEPS, fewer than eleven without any
            FarewellStones most = of("river 3 3; leap 1;" + depths(3, 0, 0, 0, 0, 1, 0, 0, 0, 0)
                + "slip = if along < 2 then 0 else 100;");
            way("none slippery", most, 0, 0, 0, 100, 200);
            FarewellStones hundreds = of("river 2 3;" + depths(2, 0, 1, 0, 0, 1, 0) + "slip = 100;");
            way("all slippery", hundreds, 0, 400, 0, 100, 101, 201);
            way("at once", of("river 3 3; leap 4; depth 1 1 0; slip = 9;"), 0, 0);
            way("one leap fewer, 1,200 more", leapOrSlip(), 0, 1200, 0, 100, 101, 102, 103, 104, 204, 304, 404, 504, 604, 704);
        });
        test("by 1 the least sum, then the fewest LEAPS;", () -> {
            // 1,0 1,1 0,1 0,2: 1 + 4 + 1 + 1
            way("least sum", of(longer), 1, 7, 1, 101, 100, 200);
            FarewellStones flat = of("river 3 2;" + depths(3, 0, 0, 0, 0, 0, 0));
            way("then the fewest leaps", flat, 1, 0, 0, 100);
            FarewellStones around = of("river 4 2; depth 0 0 0; depth 0 1 0;" + "depth 1 0 0; depth 2 0 0; depth 3 0 0;"
                + "depth 3 1 0; slip = if across - 1 < 0 then 0 else 3 - along;");
            way("one less, by more leaps", around, 1, 0, 3, 103);
            FarewellStones far = of("river 4 3;" + depths(4, 0, 1, 1, 1, 0, 0, 0, 0, 0, 1, 1, 0)
                + "slip = if across < 2 then 0 else if along < 1 then 1 else 0;");
            way("0 by seven leaps", far, 1, 0, 0, 100, 101, 102, 103, 203);
            way("1 by four", far, 0, 1, 0, 100, 200);
            way("at once", of("river 3 3; leap 4; depth 1 1 0; slip = 9;"), 1, 0);
            way("1,200 less, one leap more", leapOrSlip(), 1, 0, 11, 111, 110, 109, 108, 107, 106, 206, 306, 406, 506, 606, 706);
            // By 0, 2 it would be 22 LEAPS fewer.
            FarewellStones s = of(MANY + "depth 0 2 0; slip = if along < 1 then across / 2 * (3 - across) else 0;");
            layOn(s, toAndFro());
            way("one less, 22 leaps more", s, 1, 0, toAndFro());
            due("one more, fewest leaps", s.over(0, 1), 1);
            due("fewest leaps", s.over(0, 0), 20);
        });
    }

    /** A way of twelve STEPS that are as slippery as can be, and one of thirteen that are not. */
    private static FarewellStones leapOrSlip() {
        FarewellStones s = of(MANY + "slip = if along < 5 then 100 else 0;");
        layOn(s, 0, 100, 101, 102, 103, 104, 204, 304, 404, 504, 604, 704);
        layOn(s, 11, 111, 110, 109, 108, 107, 106, 206, 306, 406, 506, 606, 706);
        return s;
    }

    private void ofAlikeOnes() {
        test("of alike ones, STEP by STEP, the first by y, then x.", () -> {
            for (int by = 0; by < 2; by++) {
                way("by x", of("river 3 2;" + depths(3, 1, 0, 0, 1, 0, 0)), by, 0, 1, 101);
                way("one STEP, by y", of("river 3 2; leap 2; depth 2 0 0; depth 0 1 0;"), by, 0, 2);
                way("the first STEP by y", of("river 5 4; leap 2; depth 4 0 0; depth 0 1 0; depth 4 2 0; depth 0 2 0;"), by, 0,
                    4, 204);
                way("the second STEP by y", of("river 4 4; leap 2; depth 1 1 0; depth 3 2 0; depth 1 3 0; depth 0 2 0;"), by, 0,
                    101, 200);
            }
        });
    }
}
