/** Each promise of the document by hand: what is usual, the edges that it names, and what is no such thing. */
public final class PromiseTest {
    private static final int NONE = -1;
    private static final int LEAST = Integer.MIN_VALUE;
    private static final int MOST = Integer.MAX_VALUE;

    private static final Check CHECK = new Check("PromiseTest");

    public static void main(String[] args) {
        newObject();
        feed();
        back();
        read();
        tokens();
        numbers();
        rooms();
        laterFaults();
        lastOnes();
        place();
        cell();
        laws();
        stone();
        leaver();
        hurl();
        days();
        moss();
        undo();
        over();
        overAt();
        lack();
        lackAt();
        grief();
        gives();
        needed();
        alone();
        breaks();
        fords();
        tell();
        forget();
        fits();
        hold();
        restore();
        count();
        CHECK.end();
    }

    private static void due(String what, long got, long want) {
        CHECK.due(what, got, want);
    }

    private static void due(String what, boolean got, boolean want) {
        CHECK.due(what, got, want);
    }

    /** A text with a fault: which one, where, and that nothing has changed but the tape. */
    private static void fault(String text, int fault, int place) {
        FarewellStones s = Check.of("river 2 2; leaver a 0 1 3 0;");
        s.hurl(0, 1, 1);
        s.days(2);
        s.tell(0, 0, 0);
        s.hold(1);
        due("fault of " + text, Check.read(s, text), fault);
        due("place in " + text, s.place(), place);
        if (fault == 0) return;
        int[] want = {2, 2, 1, 1, 0, 2, 1, 0, 1, 0, 2, 1, 1};
        for (int i = 0; i < want.length; i++) due("count " + i + " after " + text, s.count(i), want[i]);
        due("stone after " + text, s.stone(1, 1, 0), 0);
        due("undo after " + text, s.undo(), true);
        due("restore after " + text, s.restore(1), true);
    }

    private static void rightText(String text) {
        fault(text, 0, NONE);
    }

    private static void newObject() {
        FarewellStones s = new FarewellStones();
        int[] want = {8, 4, 1, 0, 0, 0, 0, 0, 0, 0, 0, 0, 0};
        for (int i = 0; i < want.length; i++) due("new: count " + i, s.count(i), want[i]);
        due("NONE", FarewellStones.NONE, NONE);
        due("new: place", s.place(), NONE);
        for (int y = 0; y < 4; y++) {
            for (int x = 0; x < 8; x++) {
                int[] what = {0, 1, 0, 0, -2, -2};
                for (int i = 0; i < 6; i++) due("new: cell " + x + " " + y + " " + i, s.cell(x, y, i), what[i]);
            }
        }
        due("new: undo", s.undo(), false);
        due("new: restore", s.restore(0), false);
        due("new: lack", s.lack(0), 4);
        due("new: over", s.over(0, 0), -2);
    }

    private static void feed() {
        FarewellStones s = new FarewellStones();
        for (int i = 1; i <= 100; i++) due("feed " + i, s.feed(0x20202020, -1, 0, LEAST, MOST), 20 * i);
        due("feed too many", s.feed(0, 0, 0, 0, 0), NONE);
        due("nothing came", s.count(9), 2000);
        due("19 back", s.back(19), 1981);
        due("feed one too many", s.feed(0, 0, 0, 0, 0), NONE);
        due("nothing came", s.count(9), 1981);
        due("1 more back", s.back(1), 1980);
        due("feed the last ones", s.feed(0, 0, 0, 0, 0), 2000);
        due("highest byte first", Check.read(new FarewellStones(), "river 3 2;"), 0);
        FarewellStones order = new FarewellStones();
        // "leap" " 2; " "leap" " 3; " "    "
        order.feed(0x6c656170, 0x20323b20, 0x6c656170, 0x20333b20, 0x20202020);
        due("order of words", order.read(), 0);
        due("the last leap", order.count(2), 3);
        Check.feed(order, "le");
        Check.feed(order, "ap 4;");
        due("comes behind", order.count(9), 7);
        due("one text", order.read(), 0);
        due("its leap", order.count(2), 4);
    }

    private static void back() {
        FarewellStones s = new FarewellStones();
        due("back 0 of none", s.back(0), 0);
        due("back 1 of none", s.back(1), NONE);
        Check.feed(s, "leap 2;leap 9;");
        due("back below 0", s.back(-1), NONE);
        due("back of the least", s.back(LEAST), NONE);
        due("back of the most", s.back(MOST), NONE);
        due("back too many", s.back(15), NONE);
        due("nothing goes", s.count(9), 14);
        due("back 0", s.back(0), 14);
        due("back 7", s.back(7), 7);
        due("the last ones went", s.read(), 0);
        due("leap", s.count(2), 2);
        Check.feed(s, "leap");
        due("all back", s.back(4), 0);
    }

    private static void read() {
        FarewellStones s = Check.of("river 3 2; leaver a 0 1 3 0; flood 5 1; leap 2; depth 0 0 0;");
        s.hurl(0, 0, 1);
        s.days(1);
        s.tell(0, 0, 0);
        s.hold(0);
        due("wrong text", Check.read(s, "river 4 4; x"), 1);
        due("tape is empty", s.count(9), 0);
        int[] kept = {3, 2, 2, 1, 1, 1, 1, 0, 2, 0, 2, 1, 1};
        for (int i = 0; i < kept.length; i++) due("kept " + i, s.count(i), kept[i]);
        due("right text", Check.read(s, "leaver b 3 4 5 6;"), 0);
        int[] anew = {8, 4, 1, 1, 0, 0, 0, 0, 0, 0, 0, 0, 0};
        for (int i = 0; i < anew.length; i++) due("anew " + i, s.count(i), anew[i]);
        due("depth anew", s.cell(0, 0, 1), 1);
        due("no stones", s.cell(0, 1, 0), 0);
        due("no moss", s.cell(0, 1, 2), 0);
        due("nothing to undo", s.undo(), false);
        due("nothing held", s.restore(0), false);
        due("size", s.leaver(0, 3), 4);
        due("all his stones", s.leaver(0, 0), 5);
        due("empty text", s.read(), 0);
        due("no leavers", s.count(3), 0);
    }

    private static void tokens() {
        rightText("river12 8;");
        rightText("river\t12\r\n8 ;");
        rightText("leaver a1 2 3 4;");
        rightText("leaver abcdefgh 1 2 3 4;");
        rightText("leaver rivers 1 2 3 4; leaver i 1 2 3 4; leaver iff 1 2 3 4;");
        rightText("leap 0001;");
        rightText("slip=9999;");
        rightText("   \n");
        fault("leaver abcdefghi 1 2 3 4;", 1, 7);
        fault("leaver river 1 2 3 4;", 1, 7);
        fault("leaver along 1 2 3 4;", 1, 7);
        fault("leaver if 1 2 3 4;", 1, 7);
        fault("leaver Ann 1 2 3 4;", 1, 7);
        fault("leaver aNn 1 2 3 4;", 1, 8);
        fault("leap 00001;", 1, 5);
        fault("slip=10000;", 1, 5);
        fault("riverx 1 1;", 1, 0);
        fault("rive r 1 1;", 1, 0);
        fault("leap\u000b1;", 1, 4);
        fault("leap\f1;", 1, 4);
        fault("leap 1;\u0000", 1, 7);
        fault("leap 1;\u00ff", 1, 7);
        fault("leap 1;\u00a0", 1, 7);
        fault("slip=1,", 1, 6);
        fault("slip=1>2", 1, 6);
        for (char sign : "!\"#$%&',.:?@AZ[\\]^_`{|}~\u0080".toCharArray()) fault("slip=1" + sign, 1, 6);
        fault("river", 1, 5);
        fault("river 1 1  ", 1, 11);
        fault("river 1;", 1, 7);
        fault("river 1 1 1;", 1, 10);
        fault("river 1 -1;", 1, 8);
        fault(";", 1, 0);
        fault("leap 1;;", 1, 7);
        fault("carry 1;", 1, 6);
        fault("carry =;", 1, 7);
        fault("carry = x;", 1, 8);
        fault("carry = river;", 1, 8);
        fault("carry = -1;", 1, 8);
        fault("carry = 1 +;", 1, 11);
        fault("carry = 1 * * 1;", 1, 12);
        fault("carry = 1 stones;", 1, 10);
        fault("carry = ();", 1, 9);
        fault("carry = (1;", 1, 10);
        fault("carry = 1);", 1, 9);
        fault("carry = 1 < 2;", 1, 10);
        fault("carry = if 1 then 2 else 3;", 1, 13);
        fault("carry = if 1 < 2 < 3 then 2 else 3;", 1, 17);
        fault("carry = if 1 < 2 else 3;", 1, 17);
        fault("carry = if 1 < 2 then 3;", 1, 23);
        fault("carry = if 1 < 2 then if 1 < 2 then 3 else 4 else 5;", 1, 22);
        fault("carry = 1 + if 1 < 2 then 3 else 4;", 1, 12);
        fault("carry = (if 1 < 2 then 3 else 4);", 1, 9);
        fault("carry = if 1 < 2 then 3 else", 1, 28);
        rightText("carry = if (1) < 2 * 3 then 3 - 1 - 1 else if stones < deep then force else (moss / across) * along;");
    }

    private static void numbers() {
        rightText("river 1 1; river 12 8; depth 0 0 0; depth 11 7 9; flow 0 0; flow 7 9; leap 1; leap 4; leaver a 0 1 1 0;"
            + "leaver b 99 9 9 99; flood 0 1; flood 199 12;");
        String[] wrong = {"river 0 1", "river 13 1", "river 1 0", "river 1 9", "depth 12 0 0", "depth 0 8 0",
            "depth 0 0 10", "flow 8 0", "flow 0 10", "leap 0", "leap 5", "leaver a 100 1 1 0", "leaver a 0 0 1 0",
            "leaver a 0 10 1 0", "leaver a 0 1 0 0", "leaver a 0 1 10 0", "leaver a 0 1 1 100", "flood 200 1",
            "flood 0 0", "flood 0 13", "flood 9999 1"};
        int[] places = {6, 6, 8, 8, 6, 8, 10, 5, 7, 5, 5, 9, 11, 11, 13, 13, 15, 6, 8, 8, 6};
        for (int i = 0; i < wrong.length; i++) fault(wrong[i] + ";", 5, places[i]);
        rightText("river 2 2; depth 11 7 3; flow 7 9;");
    }

    private static void rooms() {
        String depths = "depth 1 1 1;".repeat(20);
        rightText(depths);
        fault(depths + " depth 1 1 1;", 2, 241);
        fault(depths + " depth", 2, 241);
        fault(depths + " depths", 1, 241);
        StringBuilder leavers = new StringBuilder();
        for (char name = 'a'; name < 'i'; name++) leavers.append("leaver ").append(name).append(" 0 1 1 0;");
        rightText(leavers.toString());
        fault(leavers + "leaver i 0 1 1 0;", 2, leavers.length());
        fault(leavers + "leaver a", 2, leavers.length());
        String floods = "flood 1 1;".repeat(8);
        rightText(floods);
        fault(floods + "flood 1 1;", 2, 80);
        String ifs = "if 1<2 then 3 else ".repeat(4);
        rightText("carry=" + ifs + "1; slip=" + ifs + "1; carry=" + ifs + "1;");
        fault("carry=" + ifs + "if 1<2 then 3 else 1;", 2, 6 + 19 * 4);
        fault("carry=" + ifs + "then", 1, 6 + 19 * 4);
        rightText("slip=((((((1)+1)+1)+1)*((2)))+(1));");
        fault("slip=(((((((1)))))));", 2, 11);
        fault("slip=if 1<((((((1))))))then 1 else (((((((1)))))));", 2, 41);
        rightText("slip=" + "(1)+".repeat(20) + "1;");
        tokenRoom();
    }

    private static void tokenRoom() {
        String full = "leap 1;".repeat(132) + "flow 1 1;";
        rightText(full);
        fault(full + " leap 1;", 2, 934);
        fault(full + " \n", 0, NONE);
        fault(full + "leap", 2, 933);
        fault(full + "x", 1, 933);
        fault(full + "?", 1, 933);
        fault("leap 1;".repeat(133) + "leap;", 1, 935);
        // The 400th TOKEN, and the text's end behind it or one more
        fault("leap 1;".repeat(133) + "leap", 1, 935);
        fault("leap 1;".repeat(133) + "leap 1", 2, 936);
        fault("slip=" + "1+".repeat(198) + "1", 1, 402);
    }

    private static void laterFaults() {
        fault("leaver a 0 1 1 0; leaver b 0 1 1 0; leaver a 0 1 1 0;", 3, 43);
        fault("leaver ab 0 1 1 0; leaver a 0 1 1 0; leaver abc 0 1 1 0;leaver ba 0 1 1 0;", 0, NONE);
        fault("leaver a 0 1 1 0; leaver a 0 0 1 0;", 3, 25);
        fault("leaver a 0 0 1 0; leaver a 0 1 1 0;", 5, 11);
        fault("leap 9; leaver a 0 1 1 0; leaver a 0 1 1 0;", 5, 5);
        fault("leap 9; leap", 1, 12);
        fault("leap 9; river 0 0; carry = (((((((1)))))));", 2, 33);
        fault("leap 9; leap 8;", 5, 5);
        fault("river 0 0;", 5, 6);
    }

    private static void lastOnes() {
        FarewellStones s = Check.of("river 2 2; river 5 3; depth 1 1 4; depth 1 1 2; flow 1 9; flow 1 2; leap 3; leap 2;"
            + "carry = 5; carry = 0; slip = 7; slip = 8; leaver a 0 1 9 0; leaver b 0 2 9 0; depth 0 0 0; depth 8 7 0;"
            + "flood 0 1;");
        due("LONG", s.count(0), 5);
        due("WIDE", s.count(1), 3);
        due("LEAP", s.count(2), 2);
        due("DEPTH", s.cell(1, 1, 1), 2);
        due("DEPTH not told", s.cell(2, 2, 1), 1);
        due("DEPTH beyond", s.cell(8, 7, 1), NONE);
        due("FLOW", s.hurl(0, 1, 1), 1103);
        due("FLOW by SIZE", s.hurl(1, 1, 1), 1102);
        due("no FLOW", s.hurl(0, 1, 0), 1001);
        due("SLIP", s.cell(0, 0, 4), 8);
        s.days(1);
        due("CARRY", s.cell(3, 1, 0), 1);
    }

    private static void place() {
        FarewellStones s = new FarewellStones();
        Check.read(s, "leap 1; leap 9;");
        due("place of WRONG", s.place(), 13);
        due("place again", s.place(), 13);
        Check.feed(s, "leap");
        due("place until read", s.place(), 13);
        s.read();
        due("place of the end", s.place(), 4);
        Check.read(s, "leap 1;");
        due("place without", s.place(), NONE);
    }

    private static void cell() {
        FarewellStones s = Check.of("river 3 2; depth 0 0 2; depth 2 1 0; slip = 200 - stones * 110; leaver a 0 1 9 0;"
            + "leaver b 0 1 9 0;");
        int[] empty = {0, 2, 0, 0, -2, -2};
        int[] flat = {0, 0, 0, 1, 100, -2};
        for (int i = 0; i < 6; i++) due("empty " + i, s.cell(0, 0, i), empty[i]);
        for (int i = 0; i < 6; i++) due("flat " + i, s.cell(2, 1, i), flat[i]);
        s.hurl(0, 0, 0);
        int[] low = {1, 2, 0, 0, -2, 0};
        for (int i = 0; i < 6; i++) due("low " + i, s.cell(0, 0, i), low[i]);
        s.days(3);
        s.hurl(1, 0, 0);
        s.days(1);
        int[] step = {2, 2, 1, 1, 0, 1};
        for (int i = 0; i < 6; i++) due("step " + i, s.cell(0, 0, i), step[i]);
        s.hurl(1, 1, 1);
        due("slippery in between", s.cell(1, 1, 4), 90);
        int[][] none = {{-1, 0, 0}, {0, -1, 0}, {3, 0, 0}, {0, 2, 0}, {0, 0, -1}, {0, 0, 6}, {LEAST, 0, 0}, {MOST, 1, 1},
            {0, LEAST, 0}, {0, MOST, 0}, {0, 0, LEAST}, {0, 0, MOST}, {12, 0, 0}, {-12, 1, 0}};
        for (int[] c : none) due("no cell " + c[0] + " " + c[1] + " " + c[2], s.cell(c[0], c[1], c[2]), NONE);
    }

    /** What SLIP tells of the CELL 2, 1 that is 1 deep, has 3 STONES and 4 of MOSS. */
    private static void law(String law, int want) {
        FarewellStones s = Check.of("river 3 2; leaver a 0 1 9 0; slip = " + law + ";");
        for (int i = 0; i < 3; i++) s.hurl(0, 2, 1);
        s.days(4);
        due("law " + law, s.cell(2, 1, 4), want);
    }

    private static void laws() {
        law("stones", 3);
        law("deep", 1);
        law("force + 5", 5);
        law("moss", 4);
        law("across * 10", 10);
        law("along * 10", 20);
        law("stones * 10 + moss", 34);
        law("2 + 3 * 4", 14);
        law("(2 + 3) * 4", 20);
        law("20 - 3 - 4", 13);
        law("20 - (3 - 4)", 21);
        law("100 / 5 / 2", 10);
        law("100 / 5 * 2", 40);
        law("7 / 2", 3);
        law("(0 - 7) / 2 + 10", 7);
        law("7 / (0 - 2) + 10", 7);
        law("0 - 1", 0);
        law("101", 100);
        law("100", 100);
        // 4999000050 wraps to 704032754, 2199560022 to -2095407274; 2147483648 to what can't be turned round
        law("9999 * 9999 * 50 / 9999 / 1000", 70);
        law("9999 * 9999 * 22 / 9999 / 9999 + 50", 30);
        law("if 2048 * 1024 * 1024 / (0 - 1) < 0 then 30 else 40", 30);
        law("if 2048 * 1024 * 1024 - 1 < 0 then 30 else 40", 40);
        law("1 / 0 + 50", 0);
        law("50 + 0 * (1 / 0)", 0);
        law("50 / force", 0);
        law("if 1 < 2 then 30 else 1 / 0", 30);
        law("if 2 < 1 then 1 / 0 else 40", 40);
        law("if 1 / 0 < 1 then 50 else 60", 0);
        law("if 1 < 1 / 0 then 50 else 60", 0);
        law("if 1 < 1 then 30 else 40", 40);
        law("if 2 < 1 then 30 else if 1 < 2 then 50 else if 1 / 0 < 2 then 60 else 70", 50);
        law("if 2 < 1 then 30 else if 3 < 2 then 50 else if 1 < 2 then 60 else 70", 60);
        law("if 2 < 1 then 30 else if 3 < 2 then 50 else if 4 < 2 then 60 else if 1 < 0 then 80 else 70", 70);
        law("if 2 < 1 then 30 else if 3 / 0 < 2 then 50 else 70", 0);
        law("if stones - moss < 0 then 11 else 22", 11);
        law("((((((stones))))))", 3);
    }

    private static void stone() {
        FarewellStones s = Check.of("river 2 1; leaver a 0 1 9 0; leaver b 0 1 9 0; leaver c 0 1 9 0;");
        int[] who = {2, 0, 1, 1, 0};
        for (int leaver : who) s.hurl(leaver, 1, 0);
        for (int i = 0; i < 5; i++) due("stone " + i, s.stone(1, 0, i), who[i]);
        due("not so many", s.stone(1, 0, 5), NONE);
        due("below", s.stone(1, 0, -1), NONE);
        due("least", s.stone(1, 0, LEAST), NONE);
        due("most", s.stone(1, 0, MOST), NONE);
        due("none there", s.stone(0, 0, 0), NONE);
        due("no cell", s.stone(2, 0, 0), NONE);
        due("no cell", s.stone(0, 1, 0), NONE);
        due("no cell", s.stone(-1, 0, 0), NONE);
        due("no cell", s.stone(1, LEAST, 0), NONE);
    }

    private static void leaver() {
        FarewellStones s = Check.of("river 2 1; flow 0 4; leaver a 0 5 2 0; leaver b 3 3 1 0;");
        int[] a = {2, 0, 0, 5, 1};
        int[] b = {1, 0, 0, 3, 0};
        for (int i = 0; i < 5; i++) due("a " + i, s.leaver(0, i), a[i]);
        for (int i = 0; i < 5; i++) due("b " + i, s.leaver(1, i), b[i]);
        s.hurl(0, 0, 0);
        s.days(2);
        due("not yet", s.leaver(1, 4), 0);
        s.days(1);
        due("the day has come", s.leaver(1, 4), 1);
        s.hurl(0, 0, 0);
        s.hurl(1, 1, 0);
        int[] after = {0, 2, 0, 5, 0};
        int[] lost = {0, 0, 1, 3, 0};
        for (int i = 0; i < 5; i++) due("a after " + i, s.leaver(0, i), after[i]);
        for (int i = 0; i < 5; i++) due("b after " + i, s.leaver(1, i), lost[i]);
        int[][] none = {{-1, 0}, {2, 0}, {0, -1}, {0, 5}, {8, 0}, {LEAST, 0}, {MOST, 0}, {0, LEAST}, {0, MOST}};
        for (int[] n : none) due("no leaver " + n[0] + " " + n[1], s.leaver(n[0], n[1]), NONE);
    }

    private static void hurl() {
        FarewellStones s = Check.of("river 12 8; flow 7 9; flow 2 8; leaver a 0 1 9 0; leaver b 0 4 9 0; leaver c 1 9 1 0;"
            + "leaver d 0 5 1 0;");
        due("no flow", s.hurl(0, 11, 0), 1011);
        due("lies at the end", s.hurl(0, 2, 7), 1711);
        due("lost", s.hurl(0, 3, 7), -2);
        due("rounded down", s.hurl(1, 1, 7), 1703);
        due("by size", s.hurl(1, 1, 2), 1203);
        due("heavier than the flow is strong", s.hurl(3, 1, 2), 1202);
        due("none left", s.hurl(3, 1, 2), NONE);
        due("his day has not come", s.hurl(2, 0, 0), NONE);
        due("things done", s.count(10), 6);
        s.days(1);
        due("his day has come", s.hurl(2, 0, 7), 1701);
        int[][] none = {{-1, 0, 0}, {4, 0, 0}, {8, 0, 0}, {0, -1, 0}, {0, 12, 0}, {0, 0, -1}, {0, 0, 8}, {LEAST, 0, 0},
            {0, LEAST, 0}, {0, 0, LEAST}, {MOST, 0, 0}, {0, MOST, 0}, {0, 0, MOST}};
        for (int[] n : none) due("no hurl " + n[0] + " " + n[1] + " " + n[2], s.hurl(n[0], n[1], n[2]), NONE);
        due("nothing happened", s.count(6), 6);
        due("nothing to undo more", s.count(10), 8);
    }

    private static void days() {
        FarewellStones s = Check.of("river 6 2; leaver a 0 1 9 0; leaver b 0 1 9 0; flood 1 2; flood 1 1; flood 3 3;"
            + "carry = if stones < 3 then stones - 1 else 2;");
        for (int leaver : new int[] {0, 1, 0, 1}) s.hurl(leaver, 0, 1);
        s.hurl(1, 2, 1);
        due("0 days", s.days(0), 0);
        due("no thing done", s.count(10), 5);
        due("no flood", s.days(1), 1);
        due("all there", s.cell(0, 1, 0), 4);
        // By 2: b a | b a -> two go to 2, 1, on top of b. By 1: of three two go to 3, 1; then one of two to 1, 1.
        due("two floods", s.days(1), 2);
        int[] heights = {1, 1, 1, 2, 0, 0};
        for (int x = 0; x < 6; x++) due("height " + x, s.cell(x, 1, 0), heights[x]);
        due("lowest stays", s.stone(0, 1, 0), 0);
        due("next one", s.stone(1, 1, 0), 1);
        due("what lay there", s.stone(2, 1, 0), 1);
        due("as they lay, lower", s.stone(3, 1, 0), 0);
        due("as they lay, upper", s.stone(3, 1, 1), 1);
        due("before the flood", s.days(1), 3);
        due("lost beyond", s.days(1), 4);
        due("whose is lost", s.leaver(1, 2), 1);
        due("not the other's", s.leaver(0, 2), 0);
        due("one stays", s.cell(3, 1, 0), 1);
        due("100 days", s.days(100), 104);
        for (int n : new int[] {-1, 101, LEAST, MOST}) due("no days " + n, s.days(n), NONE);
        due("nothing happened", s.count(5), 104);
        rowByRow();
    }

    private static void rowByRow() {
        FarewellStones s = Check.of("river 3 2; leaver a 0 1 9 0; flood 0 1; carry = 9;");
        s.hurl(0, 0, 0);
        s.hurl(0, 1, 0);
        s.hurl(0, 2, 0);
        s.hurl(0, 0, 1);
        s.days(1);
        due("goes once", s.cell(1, 0, 0), 1);
        due("goes once", s.cell(2, 0, 0), 1);
        due("goes out", s.count(7), 1);
        due("the other row", s.cell(1, 1, 0), 1);
        FarewellStones wet = Check.of("river 4 2; leaver a 0 1 9 0; flood 0 2; flood 0 1; depth 1 1 5;"
            + "carry = if force < 2 then deep - 4 else across - along;");
        wet.hurl(0, 0, 1);
        wet.hurl(0, 1, 1);
        wet.days(1);
        due("by row and force", wet.cell(2, 1, 0), 2);
        FarewellStones below = Check.of("river 4 2; leaver a 0 1 9 0; flood 0 1; carry = 0 - 5;");
        below.hurl(0, 0, 0);
        below.days(1);
        due("held to 0", below.cell(0, 0, 0), 1);
    }

    private static void moss() {
        FarewellStones s = Check.of("river 4 1; leaver a 0 1 9 0; flood 6 1; flood 6 2; flood 8 9;"
            + "carry = if moss < 6 then 0 else 1;");
        s.hurl(0, 0, 0);
        s.hurl(0, 0, 0);
        due("new", s.cell(0, 0, 2), 0);
        due("without stones", s.cell(1, 0, 2), 0);
        s.days(5);
        due("by days", s.cell(0, 0, 2), 5);
        due("without stones", s.cell(1, 0, 2), 0);
        s.days(1);
        s.hurl(0, 1, 0);
        due("elsewhere", s.cell(0, 0, 2), 6);
        // 7 of MOSS on the day of the flood: one goes; what is left and where it went have none then.
        s.days(1);
        due("one went", s.cell(0, 0, 0), 1);
        due("0 where one went", s.cell(0, 0, 2), 0);
        due("0 where one came", s.cell(1, 0, 2), 0);
        due("came", s.cell(1, 0, 0), 2);
        s.days(4);
        due("grows again", s.cell(0, 0, 2), 4);
        s.hurl(0, 0, 0);
        due("0 when thrown", s.cell(0, 0, 2), 0);
        s.days(98);
        due("98", s.cell(0, 0, 2), 98);
        s.days(1);
        due("99", s.cell(0, 0, 2), 99);
        s.days(100);
        due("99 at most", s.cell(0, 0, 2), 99);
        FarewellStones gone = Check.of("river 2 1; leaver a 0 1 9 0; flood 3 1; carry = stones;");
        gone.hurl(0, 1, 0);
        gone.days(3);
        due("grown", gone.cell(1, 0, 2), 3);
        gone.days(2);
        due("0 when all are gone", gone.cell(1, 0, 2), 0);
    }

    private static void undo() {
        FarewellStones s = Check.of("river 3 1; flow 0 1; leaver a 0 1 9 0; flood 0 1; carry = 1;");
        due("none", s.undo(), false);
        s.hurl(0, 0, 0);
        s.hurl(0, 2, 0);
        s.days(3);
        due("carried", s.cell(2, 0, 0), 1);
        s.tell(0, 0, 5);
        due("days undone", s.undo(), true);
        due("day", s.count(5), 0);
        due("back where it lay", s.cell(1, 0, 0), 1);
        due("lost one undone", s.undo(), true);
        due("not lost", s.leaver(0, 2), 0);
        due("hurl undone", s.undo(), true);
        due("has all", s.leaver(0, 0), 9);
        due("none", s.undo(), false);
        due("TOLD stays", s.count(11), 1);
        s.hurl(0, 9, 9);
        s.days(0);
        s.days(-1);
        due("no thing done", s.undo(), false);
        for (int i = 0; i < 26; i++) s.days(i + 1);
        due("25 at most", s.count(10), 25);
        for (int i = 0; i < 25; i++) due("undo " + i, s.undo(), true);
        due("the first one stays", s.count(5), 1);
        due("no more", s.undo(), false);
        s.days(4);
        s.days(4);
        s.undo();
        s.days(2);
        s.undo();
        due("from there on", s.count(5), 5);
        s.undo();
        due("from there on", s.count(5), 1);
        mossUndone();
    }

    private static void mossUndone() {
        FarewellStones s = Check.of("leaver a 0 1 9 0;");
        s.hurl(0, 0, 0);
        s.days(7);
        s.hurl(0, 0, 0);
        s.undo();
        due("moss undone", s.cell(0, 0, 2), 7);
    }

    /** Straight ways at x = 1 and, less slippery, at x = 3. */
    private static FarewellStones twoWays() {
        return Check.of("river 4 3; leap 1; depth 1 0 0; depth 1 1 0; depth 1 2 0; depth 2 0 0; depth 3 0 0;"
            + "depth 3 1 0; depth 3 2 0; slip = if along < 2 then 20 else across + along;");
    }

    private static void over() {
        FarewellStones s = twoWays();
        due("fewest leaps", s.over(0, 0), 4);
        // 3,0 .. 3,2: 3 + 4 + 5
        due("of alike ones the least sum", s.over(0, 1), 12);
        due("least sum, leaps", s.over(1, 0), 4);
        due("least sum", s.over(1, 1), 12);
        FarewellStones longer = Check.of("river 3 3; depth 1 0 0; depth 1 1 0; depth 1 2 0; depth 0 1 0; depth 0 2 0;"
            + "slip = if 0 < along * across then along * across * 4 else 1;");
        // 1,0 1,1 1,2: 1 + 4 + 8; by 0,1: 1,0 1,1 0,1 0,2: 1 + 4 + 1 + 1
        due("fewest leaps", longer.over(0, 0), 4);
        due("their sum", longer.over(0, 1), 13);
        due("more leaps", longer.over(1, 0), 5);
        due("least sum", longer.over(1, 1), 7);
        FarewellStones none = Check.of("river 3 3;");
        for (int by = 0; by < 2; by++) {
            for (int what = 0; what < 2; what++) due("no way", none.over(by, what), -2);
        }
        int[][] no = {{-1, 0}, {2, 0}, {0, -1}, {0, 2}, {LEAST, 0}, {MOST, 0}, {0, LEAST}, {1, MOST}};
        for (int[] n : no) {
            due("no such " + n[0] + " " + n[1], s.over(n[0], n[1]), NONE);
            due("no such without a way " + n[0] + " " + n[1], none.over(n[0], n[1]), NONE);
        }
        leaps();
    }

    private static void leaps() {
        FarewellStones apart = Check.of("river 5 5; leap 3; depth 1 1 0; depth 2 3 0;");
        due("3 apart", apart.over(0, 0), 3);
        FarewellStones farther = Check.of("river 5 5; leap 3; depth 1 1 0; depth 3 3 0;");
        due("4 apart", farther.over(0, 0), -2);
        due("one from bank to bank", Check.of("river 5 4; leap 3; depth 1 2 0;").over(0, 0), 2);
        due("too far from the near bank", Check.of("river 5 4; leap 1; depth 1 1 0; depth 1 2 0;").over(0, 0), -2);
        due("too far from the far bank", Check.of("river 1 3; leap 1; depth 0 0 0; depth 0 1 0;").over(0, 0), -2);
        due("no leap at once", Check.of("river 5 4; leap 4;").over(0, 0), -2);
        FarewellStones atOnce = Check.of("river 5 3; leap 4; depth 1 1 0; slip = 9;");
        for (int by = 0; by < 2; by++) {
            due("at once, leaps", atOnce.over(by, 0), 1);
            due("at once, sum", atOnce.over(by, 1), 0);
            due("at once, no step", atOnce.overAt(by, 0), NONE);
        }
    }

    private static void way(String what, FarewellStones s, int by, int... steps) {
        for (int i = 0; i < steps.length; i++) due(what + " " + i, s.overAt(by, i), steps[i]);
        due(what + " ends", s.overAt(by, steps.length), NONE);
    }

    private static void overAt() {
        way("least sum of the fewest leaps", twoWays(), 0, 3, 103, 203);
        FarewellStones flat = Check.of("river 2 2; depth 0 0 0; depth 1 0 0; depth 0 1 0; depth 1 1 0;");
        way("first by x", flat, 0, 0, 100);
        way("first by x", flat, 1, 0, 100);
        FarewellStones wide = Check.of("river 3 2; leap 2; depth 2 0 0; depth 0 1 0;");
        way("one step, first by y", wide, 0, 2);
        FarewellStones longer = Check.of("river 3 3; depth 1 0 0; depth 1 1 0; depth 1 2 0; depth 0 1 0; depth 0 2 0;"
            + "slip = if 0 < along * across then along * across * 4 else 1;");
        way("fewest leaps", longer, 0, 1, 101, 201);
        way("least sum", longer, 1, 1, 101, 100, 200);
        FarewellStones second = Check.of("river 4 4; leap 2; depth 1 1 0; depth 3 2 0; depth 1 3 0; depth 0 2 0; slip = 1;");
        way("of the second step the first by y", second, 0, 101, 200);
        int[][] no = {{-1, 0}, {2, 0}, {0, -1}, {1, LEAST}, {LEAST, 0}, {MOST, MOST}};
        FarewellStones none = Check.of("river 3 3;");
        for (int[] n : no) {
            due("no such " + n[0] + " " + n[1], flat.overAt(n[0], n[1]), NONE);
            due("looked at first " + n[0] + " " + n[1], none.overAt(n[0], n[1]), NONE);
        }
        due("no way", none.overAt(0, 0), -2);
        due("no way", none.overAt(1, 99), -2);
        due("not so many", flat.overAt(0, MOST), NONE);
    }

    private static void lack() {
        FarewellStones s = Check.of("river 3 3; depth 0 0 3; depth 1 0 2; depth 2 0 9; depth 0 1 0; depth 1 1 9; depth 2 1 0;"
            + "depth 0 2 1; depth 1 2 5; depth 2 2 2; leaver a 0 1 9 0;");
        due("fewest stones", s.lack(0), 4);
        due("leaps", s.lack(1), 4);
        for (int i = 0; i < 9; i++) s.hurl(0, 2, 0);
        due("less is lacking", s.lack(0), 2);
        due("nothing happens", s.count(6), 9);
        FarewellStones around = Check.of("river 2 2; depth 0 0 1; depth 1 0 0; depth 0 1 0; depth 1 1 1;");
        due("one is lacking", around.lack(0), 1);
        due("fewest leaps", around.lack(1), 3);
        FarewellStones over = Check.of("river 2 2; depth 0 0 0; depth 1 0 0; depth 1 1 0; depth 0 1 3;");
        due("none is lacking", over.lack(0), 0);
        due("leaps of the way", over.lack(1), 3);
        due("at once", Check.of("river 3 2; leap 3;").lack(0), 0);
        due("at once, leaps", Check.of("river 3 2; leap 3;").lack(1), 1);
        for (int what : new int[] {-1, 2, LEAST, MOST}) due("no such " + what, s.lack(what), NONE);
    }

    private static void lackAt() {
        FarewellStones s = Check.of("river 3 3; depth 0 0 2; depth 1 0 1; depth 2 0 2; depth 0 1 0; depth 1 1 1; depth 2 1 0;"
            + "depth 0 2 1; depth 1 2 1; depth 2 2 1;");
        // By 0,0 0,1 0,2: 2 + 0 + 1; by 1,0 1,1 1,2: 3; by 2,0 2,1 2,2: 3; by 1,0 1,1 0,1 0,2: 3, but five leaps
        int[] line = {0, 100, 200};
        for (int i = 0; i < 3; i++) due("line " + i, s.lackAt(i), line[i]);
        for (int i : new int[] {3, -1, LEAST, MOST}) due("not so many " + i, s.lackAt(i), NONE);
        due("no line at once", Check.of("river 3 2; leap 3;").lackAt(0), NONE);
        FarewellStones last = Check.of("river 3 2; depth 0 0 1; depth 0 1 9; depth 1 0 1; depth 1 1 9; depth 2 0 0; depth 2 1 2;");
        due("the fewest are there", last.lackAt(0), 2);
        due("then across", last.lackAt(1), 102);
    }

    private static void grief() {
        FarewellStones s = Check.of("river 2 1; depth 0 0 3; depth 1 0 9; leaver a 0 1 2 7; leaver b 0 1 2 3; leaver c 0 1 9 9;");
        due("least", s.grief(), 13);
        s.hurl(1, 1, 0);
        due("one has less left", s.grief(), 17);
        due("nothing happens", s.count(6), 1);
        due("none needed", Check.of("river 1 1; depth 0 0 0;").grief(), 0);
        due("nobody", Check.of("river 1 1;").grief(), -2);
        due("not enough", Check.of("river 1 1; depth 0 0 3; leaver a 0 1 2 1;").grief(), -2);
        FarewellStones later = Check.of("river 1 1; depth 0 0 2; leaver a 0 1 2 9; leaver b 3 1 2 1;");
        due("not today", later.grief(), 18);
        later.days(3);
        due("today", later.grief(), 2);
        // From no x below 0: the light one drifts 4, the heavier one 2.
        String deep = "river 4 1; depth 0 0 9; depth 1 0 9; depth 2 0 1; depth 3 0 9; flow 0 4;";
        due("too light", Check.of(deep + "leaver a 0 1 1 5;").grief(), -2);
        due("from x = 0", Check.of(deep + "leaver a 0 2 1 5;").grief(), 5);
        due("only the heavy one", Check.of(deep + "leaver a 0 1 1 5; leaver b 0 3 1 8;").grief(), 8);
        due("at once", Check.of("river 3 2; leap 3;").grief(), 0);
        due("more than there are", Check.of("river 1 8; depth 0 0 9; depth 0 1 9; depth 0 2 9; depth 0 3 9; depth 0 4 9;"
            + "depth 0 5 9; depth 0 6 9; depth 0 7 9; leaver a 0 1 9 1;").grief(), -2);
    }

    private static void givers(String text, int... want) {
        FarewellStones s = Check.of(text);
        for (int i = 0; i < want.length; i++) due("gives " + i + ": " + text, s.gives(i), want[i]);
    }

    private static void gives() {
        givers("river 2 1; depth 0 0 3; depth 1 0 9; leaver a 0 1 2 7; leaver b 0 1 2 3; leaver c 0 1 9 9;", 1, 2, 0, NONE);
        givers("river 1 1; depth 0 0 3; leaver a 0 1 2 4; leaver b 0 1 2 4;", 2, 1);
        givers("river 1 1; depth 0 0 3; leaver a 0 1 1 4; leaver b 0 1 1 4;", -2, -2, NONE);
        givers("river 1 1; depth 0 0 0; leaver a 0 1 2 4;", 0);
        givers("river 1 1;", NONE);
        // 0,0 can only be given by the heavy one, 0,1 by both: the first would take what the second needs.
        givers("river 1 2; flow 0 5; depth 0 0 2; depth 0 1 2; leaver a 0 6 3 1; leaver b 0 1 9 1;", 3, 1);
        givers("river 1 2; flow 1 5; depth 0 0 2; depth 0 1 2; leaver a 0 6 3 1; leaver b 0 1 9 1;", 3, 1);
        givers("river 1 2; flow 1 5; depth 0 0 2; depth 0 1 2; leaver a 0 6 3 1; leaver b 0 1 9 0;", 2, 2);
        // The first STONE goes to a, though c gives at less grief: b would give likewise else.
        givers("river 1 1; depth 0 0 2; leaver a 0 1 1 5; leaver b 0 1 1 5; leaver c 0 1 1 0;", 1, 0, 1);
        // a can't give at 0,0: b gives the first there, though c will give two in any case.
        givers("river 1 2; depth 0 0 2; depth 0 1 1; flow 0 4; leaver a 0 4 1 1; leaver b 0 9 2 1; leaver c 0 7 2 0;", 0, 1, 2);
        givers("river 1 2; depth 0 0 2; depth 0 1 1; flow 1 3; leaver a 0 9 2 0; leaver b 0 2 1 0; leaver c 0 6 2 0;", 2, 0, 1);
        FarewellStones s = Check.of("river 1 1; depth 0 0 1; leaver a 0 1 2 4;");
        for (int who : new int[] {-1, 1, 8, LEAST, MOST}) due("no such one " + who, s.gives(who), NONE);
        due("nothing happens", s.count(6), 0);
    }

    /** On 0,0 lies a STONE of a; on 0,1, which is 2 deep, one each of a and b. */
    private static FarewellStones shared() {
        FarewellStones s = Check.of("river 2 2; depth 0 1 2; leaver a 0 1 9 0; leaver b 0 1 9 0; leaver c 0 1 9 0;");
        s.hurl(0, 0, 0);
        s.hurl(0, 0, 1);
        s.hurl(1, 0, 1);
        return s;
    }

    private static void needed() {
        FarewellStones s = shared();
        due("two are needed", s.needed(), 3);
        s.hurl(2, 0, 1);
        due("one is not any more", s.needed(), 1);
        s.hurl(2, 0, 0);
        s.hurl(2, 0, 1);
        due("none is", s.needed(), 0);
        due("without a way", Check.of("river 2 2; leaver a 0 1 9 0;").needed(), 0);
        due("at once", Check.of("river 2 1; leap 2; leaver a 0 1 9 0;").needed(), 0);
    }

    private static void alone() {
        FarewellStones s = shared();
        due("none alone", s.alone(), 0);
        s.hurl(0, 0, 1);
        due("a alone", s.alone(), 1);
        s.hurl(2, 1, 0);
        s.hurl(2, 1, 1);
        due("a and c alone", s.alone(), 5);
        due("without stones", Check.of("river 1 1; depth 0 0 0; leaver a 0 1 9 0; leaver b 0 1 9 0;").alone(), 3);
        due("at once", Check.of("river 2 1; leap 2; leaver a 0 1 9 0;").alone(), 1);
        due("nobody", Check.of("river 1 1; depth 0 0 0;").alone(), 0);
    }

    private static void breaks() {
        String river = "river 3 1; leaver a 0 1 9 0; carry = 1;";
        due("no way now", Check.of(river).breaks(), -3);
        FarewellStones s = Check.of(river + "flood 4 9;");
        s.hurl(0, 0, 0);
        due("the day", s.breaks(), 4);
        due("nothing happens", s.count(5), 0);
        s.days(4);
        due("today", s.breaks(), 4);
        s.days(1);
        due("broken", s.breaks(), -3);
        FarewellStones moved = Check.of(river + "flood 4 1; flood 6 1; flood 7 1;");
        moved.hurl(0, 0, 0);
        due("still a way in between", moved.breaks(), 7);
        FarewellStones last = Check.of(river + "flood 199 9;");
        last.hurl(0, 0, 0);
        due("the 200th day", last.breaks(), 199);
        last.days(100);
        last.days(99);
        due("today, the last one", last.breaks(), 199);
        last.days(1);
        last.hurl(0, 0, 0);
        due("no flood any more", last.breaks(), -2);
        due("at once", Check.of("river 3 1; leap 2; flood 1 1; carry = 9;").breaks(), -2);
        FarewellStones mossy = Check.of("river 3 1; leaver a 0 1 9 0; flood 2 1; flood 5 9; carry = moss / 6;");
        mossy.hurl(0, 0, 0);
        due("as MOSS will be", mossy.breaks(), 5);
        FarewellStones twice = Check.of("river 3 2; leaver a 0 1 9 0; carry = 1; flood 1 1; flood 3 1; depth 1 1 0;");
        twice.hurl(0, 0, 0);
        twice.hurl(0, 1, 0);
        due("way now", twice.over(0, 0), 3);
        due("behind the second", twice.breaks(), 3);
    }

    private static void fords() {
        due("none", Check.of("river 3 2;").fords(), 0);
        due("at once", Check.of("river 3 2; leap 3;").fords(), -2);
        due("not at once", Check.of("river 3 3; leap 3;").fords(), 0);
        due("side by side", Check.of("river 3 1; depth 0 0 0; depth 2 0 0;").fords(), 2);
        // All have to go over 1,1.
        due("one in common", Check.of("river 3 3; depth 0 0 0; depth 1 0 0; depth 1 1 0; depth 0 2 0; depth 1 2 0; depth 2 2 0;")
            .fords(), 1);
        due("every cell is one", Check.of("river 4 3; leap 3;" + flat(4, 3)).fords(), 12);
        due("no more than LONG", Check.of("river 4 5; leap 1;" + flat(4, 5)).fords(), 4);
        // The first of the shortest ways, 1,0 1,1 1,2 1,3, has to be turned aside.
        due("turned aside", Check.of("river 3 4; depth 0 0 0; depth 1 0 0; depth 0 1 0; depth 1 1 0; depth 1 2 0; depth 2 1 0;"
            + "depth 2 2 0; depth 1 3 0; depth 2 3 0; depth 0 2 0;").fords(), 2);
        // The shortest way is x = 2; the other two come in and go out around 2,2, which is left alone then.
        due("turned aside over two steps", Check.of("river 5 5; depth 2 0 0; depth 2 1 0; depth 2 2 0; depth 2 3 0;"
            + "depth 2 4 0; depth 0 0 0; depth 0 1 0; depth 0 2 0; depth 0 3 0; depth 1 3 0; depth 3 1 0; depth 4 1 0;"
            + "depth 4 2 0; depth 4 3 0; depth 4 4 0;").fords(), 2);
    }

    private static String flat(int along, int across) {
        StringBuilder text = new StringBuilder();
        for (int y = 0; y < across; y++) {
            for (int x = 0; x < along; x++) text.append("depth ").append(x).append(' ').append(y).append(" 0;");
        }
        return text.toString();
    }

    private static void tell() {
        FarewellStones s = Check.of("river 3 2;");
        int[][] none = {{-1, 0, 0}, {3, 0, 0}, {0, -1, 0}, {0, 2, 0}, {0, 0, -1}, {0, 0, 100}, {LEAST, 0, 0}, {0, MOST, 0},
            {0, 0, LEAST}, {0, 0, MOST}};
        for (int[] n : none) due("no such " + n[0] + " " + n[1] + " " + n[2], s.tell(n[0], n[1], n[2]), NONE);
        due("nothing happens", s.count(11), 0);
        for (int i = 0; i < 20; i++) due("told " + i, s.tell(2, 1, i % 2 == 0 ? 0 : 99), i);
        due("a 21st", s.tell(2, 1, 0), NONE);
        due("20", s.count(11), 20);
        due("no thing done", s.undo(), false);
    }

    private static void forget() {
        FarewellStones s = Check.of("river 3 2; leaver a 0 1 9 0;");
        due("nothing", s.forget(), 0);
        s.tell(0, 0, 1);
        s.tell(0, 1, 1);
        due("two", s.forget(), 2);
        due("none", s.count(11), 0);
        due("not known any more", s.fits(0, 1, 0, -1), NONE);
        due("from 0 on", s.tell(0, 0, 0), 0);
    }

    private static void fits() {
        FarewellStones s = Check.of("river 4 2; flow 0 2; leaver a 0 1 9 0; leaver b 5 1 1 0; flood 2 1; carry = stones;");
        s.tell(2, 0, 1);
        s.tell(3, 0, 1);
        s.tell(2, 1, 1);
        due("all", s.fits(0, 0, 60, -1), 8);
        due("the last", s.fits(0, 0, 0, 7), 103);
        due("not so many", s.fits(0, 0, 0, 8), NONE);
        due("one", s.fits(0, 1, 2, -1), 1);
        due("drifts there", s.fits(0, 1, 2, 0), 0);
        due("carried off", s.fits(0, 1, 3, -1), 0);
        due("both can't be", s.fits(0, 2, 0, -1), 0);
        s.forget();
        s.tell(3, 0, 1);
        due("carried there", s.fits(0, 1, 3, 0), 0);
        due("nowhere else", s.fits(0, 1, 3, 1), NONE);
        s.tell(3, 0, 0);
        due("contradicted", s.fits(0, 2, 3, -1), 0);
        s.forget();
        for (int x = 0; x < 4; x++) s.tell(x, 0, 0);
        // Lost, or in the other row: 2,0 and 3,0, and four
        due("lost ones too", s.fits(0, 4, 0, -1), 6);
        due("the first of them", s.fits(0, 4, 0, 0), 2);
        due("nothing happens", s.count(6), 0);
        due("no day goes by", s.count(5), 0);
        due("may not", s.fits(1, 0, 0, -1), NONE);
        int[][] none = {{-1, 0, 0, -1}, {2, 0, 0, -1}, {0, -1, 0, -1}, {0, 5, 0, -1}, {0, 0, -1, -1}, {0, 0, 61, -1},
            {0, 0, 0, -2}, {LEAST, 0, 0, 0}, {0, LEAST, 0, 0}, {0, 0, LEAST, 0}, {0, 0, 0, LEAST}, {MOST, 0, 0, 0},
            {0, MOST, 0, 0}, {0, 0, MOST, 0}, {0, 0, 0, MOST}};
        for (int[] n : none) due("no such", s.fits(n[0], n[1], n[2], n[3]), NONE);
        s.days(5);
        due("may now", s.fits(1, 0, 0, -1), 8);
        s.hurl(1, 0, 0);
        due("has none left", s.fits(1, 0, 0, -1), NONE);
    }

    private static void hold() {
        FarewellStones s = Check.of("river 3 1; leaver a 0 1 9 0;");
        for (int slot : new int[] {-1, 3, LEAST, MOST}) due("no slot " + slot, s.hold(slot), false);
        due("none holds", s.count(12), 0);
        for (int slot = 0; slot < 3; slot++) due("hold " + slot, s.hold(slot), true);
        due("three hold", s.count(12), 3);
        due("no thing done", s.count(10), 0);
        s.hurl(0, 0, 0);
        s.hold(1);
        due("still three", s.count(12), 3);
        s.restore(0);
        due("before", s.count(6), 0);
        s.restore(1);
        due("held anew", s.count(6), 1);
    }

    private static void restore() {
        FarewellStones s = Check.of("river 3 1; leaver a 0 1 9 0;");
        s.hurl(0, 0, 0);
        s.hurl(0, 1, 0);
        s.days(4);
        s.hold(2);
        s.tell(0, 0, 0);
        s.hurl(0, 0, 0);
        s.days(3);
        for (int slot : new int[] {-1, 0, 1, 3, LEAST, MOST}) due("holds nothing " + slot, s.restore(slot), false);
        due("nothing happens", s.count(10), 5);
        due("restore", s.restore(2), true);
        due("stones", s.cell(0, 0, 0), 1);
        due("moss", s.cell(0, 0, 2), 4);
        due("day", s.count(5), 4);
        due("left", s.leaver(0, 0), 7);
        due("nothing can be undone", s.undo(), false);
        due("TOLD stays", s.count(11), 1);
        s.hurl(0, 2, 0);
        due("again", s.restore(2), true);
        due("stays in the slot", s.count(6), 2);
        s.days(1);
        due("goes on from there", s.cell(0, 0, 2), 5);
        due("undone to there", s.undo(), true);
        due("day", s.count(5), 4);
    }

    private static void count() {
        FarewellStones s = Check.of("river 7 3; leap 2; leaver a 0 1 9 0; leaver b 0 1 9 0; flood 1 1; depth 3 1 0; flow 2 9;");
        s.hurl(0, 0, 0);
        s.hurl(1, 6, 1);
        s.hurl(1, 0, 2);
        s.days(2);
        s.tell(0, 0, 0);
        s.hold(1);
        Check.feed(s, "leap");
        int[] want = {7, 3, 2, 2, 1, 2, 2, 1, 3, 4, 4, 1, 1};
        for (int i = 0; i < want.length; i++) due("count " + i, s.count(i), want[i]);
        for (int what : new int[] {-1, 13, LEAST, MOST}) due("no such " + what, s.count(what), NONE);
    }
}
