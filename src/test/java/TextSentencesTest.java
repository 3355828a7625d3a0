import java.io.IOException;
import java.util.Arrays;
import java.util.Set;

/** Terms I: texts, what they tell of a RIVER, their FAULTS. */
public final class TextSentencesTest extends Sentences {
    private static final String[] WORDS = {"river", "depth", "flow", "leap", "leaver", "flood", "carry", "slip", "if",
        "then", "else", "stones", "deep", "force", "moss", "across", "along"};
    private static final Set<String> TELLS = Set.of("river", "depth", "flow", "leap", "leaver", "flood", "carry", "slip");
    private static final String SIGNS = ";=+-*/<()";
    private static final int[] BLANKS = {9, 10, 13, 32};

    private TextSentencesTest() throws IOException {
        super("TextSentencesTest");
    }

    public static void main(String[] args) throws IOException {
        TextSentencesTest tests = new TextSentencesTest();
        tests.part("I");
        tests.aText();
        tests.tokens();
        tests.noTokens();
        tests.tells();
        tests.laws();
        tests.cells();
        tests.depths();
        tests.flowAndLeap();
        tests.leavers();
        tests.leaverNumbers();
        tests.floods();
        tests.ofSeveral();
        tests.syntax();
        tests.room();
        tests.roomOfLaws();
        tests.laterFaults();
        tests.oneAhead();
        tests.end();
    }

    private static boolean isBlank(int sign) {
        return Arrays.stream(BLANKS).anyMatch(blank -> blank == sign);
    }

    private static boolean isOfToken(int sign) {
        return sign >= 'a' && sign <= 'z' || sign >= '0' && sign <= '9' || SIGNS.indexOf(sign) >= 0;
    }

    private void aText() {
        test("A TEXT has 2,000 bytes at most.", () -> {
            right("leap 2;" + " ".repeat(1993));
            FarewellStones s = of(" ".repeat(1993) + "leap 3;");
            due("LEAP told by the last bytes", s.count(2), 3);
            fault(" ".repeat(1993) + "leap 3 ", SYNTAX, 2000);
            fault(" ".repeat(1999) + "?", SYNTAX, 1999);
        });
    }

    private void tokens() {
        test("TOKENS, the longest that can be, with blanks (9, 10, 13, 32) between or not:", () -> {
            right("river12 8;leap4;leaver a0 1 1 0;slip=if 1<2then 3else(4)*5-moss;");
            fault("leap 12;", WRONG, 5);
            right("leaver riverx 0 1 1 0;");
            fault("riverx 1 1;", SYNTAX, 0);
            for (int blank : BLANKS) right("leap" + (char) blank + "1" + (char) blank + ";" + (char) blank);
            for (int sign = 0; sign < 256; sign++) {
                if (isBlank(sign) || sign >= '0' && sign <= '9') continue;
                boolean letter = sign >= 'a' && sign <= 'z';
                fault("leap" + (char) sign + "1;", SYNTAX, letter ? 0 : 4);
            }
        });
        test("NAMES (letters a .. z, 8 at most, none of the words in quotes),", () -> {
            for (String name : new String[] {"a", "z", "azazazaz", "i", "rive"}) right("leaver " + name + " 0 1 1 0;");
            fault("leaver azazazaza 0 1 1 0;", SYNTAX, 7);
            for (char beside : new char[] {'`', '{', 'A', 'Z', '0'}) fault("leaver " + beside + " 0 1 1 0;", SYNTAX, 7);
            for (String word : WORDS) {
                fault("leaver " + word + " 0 1 1 0;", SYNTAX, 7);
                right("leaver " + word + "x 0 1 1 0;");
                right("leaver " + word.substring(1) + " 0 1 1 0;");
                for (int i = 0; i < word.length(); i++) {
                    right("leaver " + word.substring(0, i) + "z" + word.substring(i + 1) + " 0 1 1 0;");
                }
            }
        });
        test("INTS (1 to 4 digits),", () -> {
            for (String number : new String[] {"1", "01", "001", "0001"}) right("leap " + number + ";");
            fault("leap 00001;", SYNTAX, 5);
            right("slip=9999;");
            fault("slip=10000;", SYNTAX, 5);
            right("flow 0 9;");
            fault("flow 0 /;", SYNTAX, 7);
            fault("flow 0 :;", SYNTAX, 7);
        });
        test("SIGNS ; = + - * / < ( ) .", () -> right("slip=if(1)<2 then 3*4/5 else 6+7-8;"));
    }

    private void noTokens() {
        test("A longer one, all else, is no TOKEN.", () -> {
            fault("leaver abcdefghi 1 1 1 1;", SYNTAX, 7);
            fault("leaver abcdefghriver 1 1 1 1;", SYNTAX, 7);
            fault("leap 1234567890;", SYNTAX, 5);
            for (int sign = 0; sign < 256; sign++) {
                if (isBlank(sign) || isOfToken(sign)) continue;
                fault("leap 1;" + (char) sign, SYNTAX, 7);
                fault("slip=1" + (char) sign + ";", SYNTAX, 6);
            }
        });
    }

    /** Each TOKEN of this TELL is needed, and none but it goes at its place. */
    private void onlySo(String tell) {
        String[] tokens = tell.split(" ");
        right(tell);
        StringBuilder ahead = new StringBuilder(tokens[0]);
        for (int i = 1; i < tokens.length; i++) {
            fault(ahead.toString(), SYNTAX, ahead.length());
            ahead.append(' ');
            for (String word : WORDS) fault(ahead + word + " 1 1 1 1 1;", SYNTAX, ahead.length());
            for (char sign : SIGNS.toCharArray()) {
                if (sign != tokens[i].charAt(0)) fault(ahead + "" + sign + " 1;", SYNTAX, ahead.length());
            }
            if (!isNumber(tokens[i])) fault(ahead + "1 ;", SYNTAX, ahead.length());
            if (!tokens[i].equals("ann")) fault(ahead + "ann ;", SYNTAX, ahead.length());
            ahead.append(tokens[i]);
        }
    }

    private static boolean isNumber(String token) {
        return Character.isDigit(token.charAt(0));
    }

    private void tells() {
        test("text: {TELL}.", () -> {
            right("");
            right(" \t\r\n");
            right("leap 1;");
            right("leap 1; river 2 2; slip = 1; leap 1;");
            for (String word : WORDS) if (!TELLS.contains(word)) fault(word + " 1;", SYNTAX, 0);
            for (char sign : SIGNS.toCharArray()) fault("leap 1;" + sign, SYNTAX, 7);
            fault("1;", SYNTAX, 0);
            fault("ann;", SYNTAX, 0);
        });
        test("TELL: 'river' INT INT ';'", () -> onlySo("river 2 2 ;"));
        test("| 'depth' INT INT INT ';'", () -> onlySo("depth 1 1 1 ;"));
        test("| 'flow' INT INT ';'", () -> onlySo("flow 1 1 ;"));
        test("| 'leap' INT ';'", () -> onlySo("leap 1 ;"));
        test("| 'leaver' NAME INT INT INT INT ';'", () -> onlySo("leaver ann 1 1 1 1 ;"));
        test("| 'flood' INT INT ';'", () -> onlySo("flood 1 1 ;"));
        test("| 'carry' LAW ';'", () -> {
            right("carry = 1;");
            fault("carry = 1 slip = 1;", SYNTAX, 10);
            fault("carry = 1", SYNTAX, 9);
        });
        test("| 'slip' LAW ';'.", () -> {
            right("slip = 1;");
            fault("slip = 1 carry = 1;", SYNTAX, 9);
            fault("slip = 1", SYNTAX, 8);
        });
    }

    private void laws() {
        test("LAW: '=' {'if' E '<' E 'then' E 'else'} E.", () -> {
            right("carry = if 1 < 2 then 3 else if 4 < 5 then 6 else 7;");
            fault("carry 1;", SYNTAX, 6);
            fault("carry if 1 < 2 then 3 else 4;", SYNTAX, 6);
            fault("carry = ;", SYNTAX, 8);
            fault("carry = if < 2 then 3 else 4;", SYNTAX, 11);
            fault("carry = if 1 then 3 else 4;", SYNTAX, 13);
            fault("carry = if 1 < then 3 else 4;", SYNTAX, 15);
            fault("carry = if 1 < 2 < 3 then 3 else 4;", SYNTAX, 17);
            fault("carry = if 1 < 2 3 else 4;", SYNTAX, 17);
            fault("carry = if 1 < 2 then else 4;", SYNTAX, 22);
            fault("carry = if 1 < 2 then 3 4;", SYNTAX, 24);
            fault("carry = if 1 < 2 then 3;", SYNTAX, 23);
            fault("carry = if 1 < 2 then 3 else ;", SYNTAX, 29);
            fault("carry = if 1 < 2 then if 1 < 2 then 3 else 4 else 5;", SYNTAX, 22);
            fault("carry = 1 < 2;", SYNTAX, 10);
            fault("carry = (if 1 < 2 then 3 else 4);", SYNTAX, 9);
            fault("carry = if 1 < 2 then 3 else", SYNTAX, 28);
        });
        test("E: PART {('+' | '-') PART}.", () -> {
            right("slip = 1 + 2 - 3 + 4;");
            fault("slip = + 1;", SYNTAX, 7);
            fault("slip = - 1;", SYNTAX, 7);
            fault("slip = 1 + ;", SYNTAX, 11);
            fault("slip = 1 - - 2;", SYNTAX, 11);
        });
        test("PART: UNIT {('*' | '/') UNIT}.", () -> {
            right("slip = 1 * 2 / 3 * 4;");
            fault("slip = * 1;", SYNTAX, 7);
            fault("slip = 1 / ;", SYNTAX, 11);
            fault("slip = 1 * - 2;", SYNTAX, 11);
            fault("slip = 1 * / 2;", SYNTAX, 11);
        });
        test("UNIT: INT | VAR | '(' E ')'.", () -> {
            right("slip = (1 + moss * (2));");
            fault("slip = ();", SYNTAX, 8);
            fault("slip = (1;", SYNTAX, 9);
            fault("slip = 1);", SYNTAX, 8);
            fault("slip = (1 2);", SYNTAX, 10);
            fault("slip = 1 2;", SYNTAX, 9);
            fault("slip = 1 moss;", SYNTAX, 9);
            fault("slip = moss (1);", SYNTAX, 12);
            fault("slip = ann;", SYNTAX, 7);
        });
        test("VAR: 'stones' | 'deep' | 'force' | 'moss' | 'across' | 'along'.", () -> {
            Set<String> vars = Set.of("stones", "deep", "force", "moss", "across", "along");
            for (String word : WORDS) {
                if (vars.contains(word)) right("slip = " + word + ";");
                else if (!word.equals("if")) fault("slip = " + word + ";", SYNTAX, 7);
            }
        });
    }

    private void cells() {
        test("RIVER: CELLS (x, y), 0 <= x < LONG (1 .. 12),", () -> {
            for (int along : new int[] {1, 12}) {
                FarewellStones s = of("river " + along + " 2;");
                due("LONG", s.count(0), along);
                due("x below 0", s.cell(-1, 0, 1), NONE);
                due("x 0", s.cell(0, 1, 1), 1);
                due("x LONG - 1", s.cell(along - 1, 1, 1), 1);
                due("x LONG", s.cell(along, 0, 1), NONE);
            }
            fault("river 0 2;", WRONG, 6);
            fault("river 13 2;", WRONG, 6);
            fault("river 9999 2;", WRONG, 6);
        });
        test("0 <= y < WIDE (1 .. 8;", () -> {
            for (int across : new int[] {1, 8}) {
                FarewellStones s = of("river 2 " + across + ";");
                due("WIDE", s.count(1), across);
                due("y below 0", s.cell(0, -1, 1), NONE);
                due("y 0", s.cell(1, 0, 1), 1);
                due("y WIDE - 1", s.cell(1, across - 1, 1), 1);
                due("y WIDE", s.cell(0, across, 1), NONE);
            }
            fault("river 2 0;", WRONG, 8);
            fault("river 2 9;", WRONG, 8);
            fault("river 2 9999;", WRONG, 8);
        });
        test("8 and 4 if not told;", () -> {
            FarewellStones s = of("river 2 2;");
            Check.read(s, "leap 2;");
            due("LONG", s.count(0), 8);
            due("WIDE", s.count(1), 4);
            due("the last CELL", s.cell(7, 3, 1), 1);
            due("x 8", s.cell(8, 3, 1), NONE);
            due("y 4", s.cell(7, 4, 1), NONE);
        });
        test("the last one told).", () -> {
            FarewellStones s = of("river 12 8; river 2 3;");
            due("LONG", s.count(0), 2);
            due("WIDE", s.count(1), 3);
            due("LONG, greater", of("river 2 3; river 12 8;").count(0), 12);
            fault("river 0 2; river 2 2;", WRONG, 6);
        });
    }

    private void depths() {
        test("DEPTH of a CELL 0 .. 9 (1 if not told),", () -> {
            FarewellStones s = of("river 3 1; depth 0 0 0; depth 1 0 9;");
            due("0", s.cell(0, 0, 1), 0);
            due("9", s.cell(1, 0, 1), 9);
            due("not told", s.cell(2, 0, 1), 1);
            fault("depth 0 0 10;", WRONG, 10);
            for (int again = 0; again < 3; again++) {
                s.read();
                due("not told any more", s.cell(1, 0, 1), 1);
            }
        });
        test("20 at most;", () -> {
            right("depth 1 1 1;".repeat(20));
            fault("depth 1 1 1;".repeat(21), ROOM, 240);
        });
        test("x 0 .. 11, y 0 .. 7 (beyond the RIVER there is none).", () -> {
            right("depth 0 0 1; depth 11 7 1;");
            fault("depth 12 0 1;", WRONG, 6);
            fault("depth 0 8 1;", WRONG, 8);
            FarewellStones s = of("depth 8 0 0; depth 0 4 0; depth 11 7 0; river 2 2; depth 2 0 0; depth 2 1 0; depth 0 2 0;");
            due("no CELL by x", s.cell(2, 0, 1), NONE);
            due("no CELL by y", s.cell(0, 2, 1), NONE);
            due("no STEP", s.count(8), 0);
            due("no WAY OVER", s.over(0, 0), -2);
        });
    }

    private void flowAndLeap() {
        test("FLOW of a row y: 0 .. 9 (0).", () -> {
            FarewellStones s = of("river 12 8; flow 0 0; flow 1 9; flow 7 9; leaver a 0 1 9 0;");
            due("0", s.hurl(0, 1, 0), 1001);
            due("9", s.hurl(0, 1, 1), 1110);
            due("not told", s.hurl(0, 1, 2), 1201);
            due("the last row", s.hurl(0, 0, 7), 1709);
            fault("flow 0 10;", WRONG, 7);
            fault("flow 8 0;", WRONG, 5);
            right("river 2 2; flow 7 9;");
            for (int again = 0; again < 3; again++) {
                Check.read(s, "leaver a 0 1 9 0;");
                due("not told any more", s.hurl(0, 1, 1), 1101);
            }
        });
        test("LEAP 1 .. 4 (1).", () -> {
            due("1", of("leap 1;").count(2), 1);
            due("4", of("leap 4;").count(2), 4);
            FarewellStones s = of("leap 2;");
            for (int again = 0; again < 3; again++) {
                Check.read(s, "river 2 2;");
                due("not told", s.count(2), 1);
            }
            fault("leap 0;", WRONG, 5);
            fault("leap 5;", WRONG, 5);
        });
    }

    /** So many LEAVERS, each by himself told rightly. */
    private static String leavers(int count) {
        StringBuilder text = new StringBuilder();
        for (int i = 0; i < count; i++) text.append("leaver ").append((char) ('a' + i)).append(" 0 1 1 0;");
        return text.toString();
    }

    private void leavers() {
        test("LEAVERS, 8 at most", () -> {
            due("none", of("").count(3), 0);
            due("8", of(leavers(8)).count(3), 8);
            fault(leavers(9), ROOM, leavers(8).length());
        });
        test("(a NAME, the DAY from which on he may throw 0 .. 99,", () -> {
            FarewellStones s = of("leaver a 0 1 1 0; leaver b 1 1 1 0; leaver c 99 1 1 0;");
            due("0", s.leaver(0, 4), 1);
            due("1, too early", s.leaver(1, 4), 0);
            s.days(1);
            due("1, on the day", s.leaver(1, 4), 1);
            s.days(97);
            due("99, too early", s.leaver(2, 4), 0);
            s.days(1);
            due("99, on the day", s.leaver(2, 4), 1);
            due("1, later", s.leaver(1, 4), 1);
            fault("leaver a 100 1 1 0;", WRONG, 9);
        });
    }

    private void leaverNumbers() {
        test("SIZE of his stones 1 .. 9,", () -> {
            FarewellStones s = of("leaver a 0 1 1 0; leaver b 0 9 1 0;");
            due("1", s.leaver(0, 3), 1);
            due("9", s.leaver(1, 3), 9);
            fault("leaver a 0 0 1 0;", WRONG, 11);
            fault("leaver a 0 10 1 0;", WRONG, 11);
        });
        test("how MANY he has 1 .. 9,", () -> {
            FarewellStones s = of("leaver a 0 1 1 0; leaver b 0 1 9 0;");
            due("1", s.leaver(0, 0), 1);
            due("9", s.leaver(1, 0), 9);
            fault("leaver a 0 1 0 0;", WRONG, 13);
            fault("leaver a 0 1 10 0;", WRONG, 13);
        });
        test("GRIEF 0 .. 99 for each)", () -> {
            due("0", of("river 1 1; leaver a 0 1 1 0;").grief(), 0);
            due("99", of("river 1 1; leaver a 0 1 1 99;").grief(), 99);
            due("for each", of("river 1 1; depth 0 0 9; leaver a 0 1 9 99;").grief(), 891);
            fault("leaver a 0 1 1 100;", WRONG, 15);
        });
        test("are numbered from 0 on as they stand.", () -> {
            FarewellStones s = of("leaver z 0 5 1 0; river 2 2; leaver a 0 6 1 0; leaver m 0 7 1 0;");
            for (int i = 0; i < 3; i++) due("SIZE of " + i, s.leaver(i, 3), 5 + i);
            due("no more", s.leaver(3, 3), NONE);
        });
    }

    private void floods() {
        test("FLOODS: a day 0 .. 199, a FORCE 1 .. 12;", () -> {
            FarewellStones s = of("river 12 2; leaver a 0 1 9 0; carry = 1; flood 0 1; flood 199 12;");
            s.hurl(0, 0, 0);
            s.days(1);
            due("day 0, FORCE 1", s.cell(1, 0, 0), 1);
            s.hurl(0, 0, 1);
            s.days(99);
            s.days(99);
            due("before day 199", s.cell(0, 1, 0), 1);
            s.days(1);
            due("day 199, FORCE 12", s.count(7), 2);
            fault("flood 200 1;", WRONG, 6);
            fault("flood 0 0;", WRONG, 8);
            fault("flood 0 13;", WRONG, 8);
            FarewellStones far = of("river 12 1; leaver a 0 1 9 0; carry = 1; flood 0 11;");
            far.hurl(0, 0, 0);
            far.days(1);
            due("FORCE 11", far.cell(11, 0, 0), 1);
        });
        test("8 at most.", () -> {
            due("none", of("").count(4), 0);
            due("8", of("flood 1 1;".repeat(8)).count(4), 8);
            fault("flood 1 1;".repeat(9), ROOM, 80);
        });
    }

    private void ofSeveral() {
        test("CARRY (0 if not told),", () -> {
            FarewellStones s = of("carry = 1;");
            for (int again = 0; again < 3; again++) {
                Check.read(s, "leaver a 0 1 9 0; flood 0 1;");
                s.hurl(0, 0, 0);
                s.days(1);
                due("stays", s.cell(0, 0, 0), 1);
            }
        });
        test("SLIP (0).", () -> {
            FarewellStones s = of("slip = 9;");
            for (int again = 0; again < 3; again++) {
                Check.read(s, "depth 0 0 0;");
                due("not told", s.cell(0, 0, 4), 0);
            }
        });
        test("Of several the last one.", () -> {
            FarewellStones s = of("river 9 3; depth 1 1 4; depth 1 1 0; flow 1 9; flow 1 2; leap 3; leap 2; carry = 1;"
                + "carry = 0; slip = if 1 < 2 then 7 else 1; slip = 8; leaver a 0 1 9 0; flood 0 1;");
            due("DEPTH", s.cell(1, 1, 1), 0);
            due("FLOW", s.hurl(0, 1, 1), 1103);
            due("LEAP", s.count(2), 2);
            due("SLIP", s.cell(1, 1, 4), 8);
            s.days(1);
            due("CARRY", s.cell(3, 1, 0), 1);
        });
    }

    private void syntax() {
        test("FAULTS of a text, the first by its place (a byte; the text's end: its length), of one place the least:", () -> {
            fault("?", SYNTAX, 0);
            fault("leap", SYNTAX, 4);
            fault("leap \n ", SYNTAX, 7);
            fault("leap 1; leap leap 1; ;", SYNTAX, 13);
            fault("carry = (((((((1 ;", ROOM, 14);
            fault("carry = (((((( ; (((((((1", SYNTAX, 15);
            // A TOKEN that is one too many, and with which no text goes on as well
            fault("leap 1;".repeat(132) + "flow 1 1;1", SYNTAX, 933);
            fault("leap 1;".repeat(133) + "leap?", SYNTAX, 935);
        });
        test("1 SYNTAX: a TOKEN, or what is none, with which no text goes on.", () -> {
            fault("leap 1; then", SYNTAX, 8);
            fault("leap 1 1;", SYNTAX, 7);
            fault("leap 1 00001;", SYNTAX, 7);
            fault("leap 1 #;", SYNTAX, 7);
            fault("depth 1 1 1;".repeat(20) + "depths 1 1 1;", SYNTAX, 240);
        });
    }

    private void room() {
        test("2 ROOM: a 401st TOKEN;", () -> {
            String full = "leap 1;".repeat(132) + "flow 1 1;";
            right(full);
            right(full + " \n");
            fault(full + " leap 1;", ROOM, 934);
            // The 401st one is a word, an INT, a sign, one of a LAW, and all might go on.
            fault(full + "leap", ROOM, 933);
            fault("leap 1;".repeat(133) + "leap 1;", ROOM, 936);
            fault("leap 1;".repeat(132) + "depth 1 1 1;", ROOM, 935);
            fault("leap 1;".repeat(132) + "flow 0 leap", SYNTAX, 931);
            fault("flow 1 1;" + "leap 1;".repeat(131) + "flow 1 1 ;", ROOM, 935);
            right("slip=" + "1+".repeat(198) + "1;");
            fault("slip=" + "1+".repeat(199) + "1;", ROOM, 403);
            fault("slip=" + "1+".repeat(199) + "(", ROOM, 403);
            fault("slip=(" + "1+".repeat(198) + "1);", ROOM, 403);
            fault("slip=if" + " 1+".repeat(198) + "1<", ROOM, 602);
        });
        test("a 21st depth, a 9th leaver, flood (at its first TOKEN);", () -> {
            fault("depth 1 1 1;".repeat(20) + " depth", ROOM, 241);
            fault("depth 1 1 1;".repeat(20) + "leap 1; depth ?", ROOM, 248);
            fault(leavers(8) + " leaver", ROOM, leavers(8).length() + 1);
            fault(leavers(8) + "leaver a 0 1 1 0;", ROOM, leavers(8).length());
            fault("flood 1 1;".repeat(8) + " flood", ROOM, 81);
            right("depth 1 1 1;".repeat(20) + leavers(8) + "flood 1 1;".repeat(8));
        });
    }

    private void roomOfLaws() {
        test("a 5th if of a LAW (at it);", () -> {
            String ifs = "if 1<2 then 3 else ".repeat(4);
            right("carry=" + ifs + "1; slip=" + ifs + "1; carry=" + ifs + "1;");
            fault("carry=" + ifs + "if", ROOM, 6 + 4 * 19);
            fault("carry=" + ifs + "if 1<2 then 3 else 1;", ROOM, 6 + 4 * 19);
            fault("slip=" + ifs + "if 1<2 then 3 else 1;", ROOM, 5 + 4 * 19);
        });
        test("a 7th ( within one another (at it).", () -> {
            right("slip=((((((1)+1)+1)+1)*((2)))+(1));");
            fault("slip=(((((((", ROOM, 11);
            fault("slip=(((((((1)))))));", ROOM, 11);
            fault("slip=1+2*(1+((((1-(((1))))))));", ROOM, 19);
            String six = "((((((1))))))";
            String seven = "(" + six + ")";
            fault("slip=if " + seven + "<1 then 1 else 1;", ROOM, 14);
            fault("slip=if " + six + "<" + seven + "then 1 else 1;", ROOM, 28);
            fault("slip=if " + six + "<" + six + "then" + seven + "else 1;", ROOM, 45);
            fault("slip=if " + six + "<" + six + "then" + six + "else" + seven + ";", ROOM, 62);
            fault("slip=" + six + "+" + seven + ";", ROOM, 25);
            fault("slip=" + six + "*" + seven + ";", ROOM, 25);
            right("slip=" + "((((((1))))))+".repeat(20) + "1;");
            right("slip=if " + six + "<" + six + "then" + six + "else" + six + ";");
        });
    }

    private void laterFaults() {
        test("If there is none, likewise:", () -> {
            fault("leap 9; leap", SYNTAX, 12);
            fault("leap 9; river 0 0; carry = (((((((1)))))));", ROOM, 33);
            fault("leaver a 0 1 1 0; leaver a 0 1 1 0; 1", SYNTAX, 36);
            fault("leap 9; leap 8;", WRONG, 5);
            fault("leap 9; leaver a 0 1 1 0; leaver a 0 1 1 0;", WRONG, 5);
            fault("leaver a 0 1 1 0; leaver a 0 0 1 0;", TWICE, 25);
            fault("leaver a 0 0 1 0; leaver a 0 1 1 0;", WRONG, 11);
        });
        test("3 TWICE: a NAME told already.", () -> {
            fault("leaver a 0 1 1 0; leaver b 0 1 1 0; leaver  a 0 1 1 0;", TWICE, 44);
            fault("leaver a 0 1 1 0; leaver b 0 1 1 0; leaver b 0 1 1 0; leaver a 0 1 1 0;", TWICE, 43);
            fault("leaver abcdefgh 0 1 1 0;leaver abcdefgh 0 1 1 0;", TWICE, 31);
            fault(leavers(7) + "leaver g 0 1 1 0;", TWICE, leavers(7).length() + 7);
            right("leaver ab 0 1 1 0; leaver a 0 1 1 0; leaver b 0 1 1 0; leaver abc 0 1 1 0; leaver ba 0 1 1 0;");
            right("leaver abcdefgh 0 1 1 0; leaver abcdefgi 0 1 1 0; leaver bbcdefgh 0 1 1 0;");
        });
        test("5 WRONG (at the INT): a number not as told above.", () -> {
            fault("river 13 9;", WRONG, 6);
            fault("river  1   9;", WRONG, 11);
            fault("depth 12 8 10;", WRONG, 6);
            fault("leaver a 100 10 10 100;", WRONG, 9);
            fault("leaver a 99 10 10 100;", WRONG, 12);
            fault("leaver a 99 9 10 100;", WRONG, 14);
            fault("leaver a 99 9 9 100;", WRONG, 16);
            fault("leap 0000;", WRONG, 5);
            right("leap 0004; river 012 08; slip = 9999;");
        });
    }

    private void oneAhead() {
        test("A text with a FAULT changes nothing but the tape;", () -> {
            String[] faulty = {"river 4 4; x", "depth 1 1 5;".repeat(21), leavers(2) + leavers(1), "leap 4; leap 5;",
                "slip = 9; carry = 9; flow 1 9; flood 2 2; depth 0 0 7; leaver z 3 3 3 3; leap 4"};
            for (String text : faulty) {
                FarewellStones s = of("river 3 2; leaver a 0 1 3 7; flood 5 3; leap 2; depth 1 0 3; slip = 3; carry = 1;");
                s.hurl(0, 0, 1);
                s.days(2);
                s.tell(0, 1, 1);
                s.hold(1);
                String before = all(s);
                Check.feed(s, text);
                due("FAULT of " + text, s.read() != 0, true);
                due("tape", s.count(9), 0);
                same("all else", s, before);
                due("CARRY, FLOODS", s.breaks(), 5);
                due("FLOW", s.hurl(0, 1, 1), 1101);
                due("undo", s.undo() && s.undo() && s.undo(), true);
                due("GRIEF", s.grief(), 7);
                due("a SLOT", s.restore(1), true);
                due("TOLD", s.forget(), 1);
            }
        });
        test("else it is in place of the one ahead: day 0, no STONES, no MOSS, nothing can be undone, nothing is TOLD,"
            + " SLOTS hold nothing.", () -> {
            FarewellStones s = of("river 3 2; leaver a 0 1 4 0; flood 5 1; leap 2; depth 0 0 0; flow 0 3;");
            s.hurl(0, 0, 1);
            s.hurl(0, 1, 1);
            due("one is lost", s.hurl(0, 0, 0), -2);
            s.days(1);
            s.tell(0, 1, 1);
            for (int slot = 0; slot < 3; slot++) s.hold(slot);
            due("read", Check.read(s, "river 3 2; leaver b 0 1 5 0;"), 0);
            same("as new", s, all(of("river 3 2; leaver b 0 1 5 0;")));
            due("nothing can be undone", s.undo(), false);
            for (int slot = 0; slot < 3; slot++) due("SLOT " + slot, s.restore(slot), false);
            due("nothing is TOLD", s.forget(), 0);
            due("day", s.days(0), 0);
        });
    }
}
