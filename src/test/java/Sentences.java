import java.io.IOException;
import java.nio.charset.StandardCharsets;
import java.nio.file.Files;
import java.nio.file.Path;
import java.util.BitSet;
import java.util.stream.Collectors;

/**
 * Tests that bear the document's own sentences as their names. A part of the document is opened, then each of its
 * sentences has its test; a sentence that the document has not, or one of it that no test bears, is wrong too.
 */
abstract class Sentences {
    static final int NONE = -1;
    static final int LEAST = Integer.MIN_VALUE;
    static final int MOST = Integer.MAX_VALUE;
    static final int SYNTAX = 1;
    static final int ROOM = 2;
    static final int TWICE = 3;
    static final int WRONG = 5;

    private static final Path DOCUMENT = Path.of("../shared/DOC.md");

    private final Check check;
    private final String document;
    private String part = "";
    private String words = "";
    private BitSet borne = new BitSet();
    private String sentence = "";

    Sentences(String name) throws IOException {
        check = new Check(name);
        document = Files.readAllLines(DOCUMENT, StandardCharsets.UTF_8).stream().filter(line -> !line.startsWith("```"))
            .map(line -> line.startsWith("## ") ? "\n" + line + "\n" : line.startsWith("====") ? "\n" + line : line)
            .collect(Collectors.joining(" "));
    }

    /** Opens one of the Terms (I, II, III, IV) or, by its heading, another part. */
    final void part(String name) {
        closePart();
        part = name;
        String heading = name.startsWith("I") ? "\n==== " + name + "." : "\n## " + name;
        int start = document.indexOf(heading);
        check.due("part " + name + " of the document", start >= 0, true);
        if (start < 0) return;
        String rest = document.substring(start + heading.length());
        // A heading of its own line ends there; behind it a promise begins with its call.
        if (!name.startsWith("I")) rest = rest.substring(rest.indexOf('\n') + 1).replaceFirst("^ *`[^`]*`:", "");
        int end = rest.indexOf('\n');
        words = (end < 0 ? rest : rest.substring(0, end)).replaceAll(" +", " ");
        borne = new BitSet();
    }

    final void test(String name, Runnable test) {
        sentence = name;
        int at = words.indexOf(name);
        due("the sentence in the document", at >= 0, true);
        if (at >= 0) borne.set(at, at + name.length());
        test.run();
        sentence = "";
    }

    private void closePart() {
        for (int at = 0; at < words.length(); at++) {
            if (words.charAt(at) == ' ' || borne.get(at)) continue;
            int next = borne.nextSetBit(at);
            check.due(part + ": a test of \"" + words.substring(at, next < 0 ? words.length() : next) + "\"", false, true);
            if (next < 0) break;
            at = next;
        }
        words = "";
    }

    final void end() {
        closePart();
        check.end();
    }

    final void due(String what, long got, long want) {
        check.due(part + " \"" + sentence + "\": " + what, got, want);
    }

    final void due(String what, boolean got, boolean want) {
        due(what, got ? 1 : 0, want ? 1 : 0);
    }

    /** A new object reads the text: which FAULT, and where. */
    final void fault(String text, int fault, int place) {
        FarewellStones s = new FarewellStones();
        due("fault of " + text, Check.read(s, text), fault);
        due("its place in " + text, s.place(), place);
    }

    final void right(String text) {
        fault(text, 0, NONE);
    }

    /** What the calls cell, stone, leaver and count tell, to be compared later on. */
    static String all(FarewellStones s) {
        StringBuilder all = new StringBuilder();
        for (int what = 0; what <= 12; what++) all.append(s.count(what)).append(' ');
        for (int y = 0; y < s.count(1); y++) {
            for (int x = 0; x < s.count(0); x++) {
                for (int what = 0; what < 6; what++) all.append(s.cell(x, y, what)).append(' ');
                for (int i = 0; i < s.cell(x, y, 0); i++) all.append(s.stone(x, y, i)).append(' ');
            }
        }
        for (int who = 0; who < s.count(3); who++) {
            for (int what = 0; what < 5; what++) all.append(s.leaver(who, what)).append(' ');
        }
        return all.toString();
    }

    final void same(String what, FarewellStones s, String before) {
        due(what, all(s).equals(before), true);
    }

    static FarewellStones of(String text) {
        return Check.of(text);
    }

    static void hurl(FarewellStones s, int leaver, int x, int y, int times) {
        for (int i = 0; i < times; i++) s.hurl(leaver, x, y);
    }

    /** Eight LEAVERS, each with nine STONES. */
    static String eight() {
        StringBuilder text = new StringBuilder();
        for (char name = 'a'; name < 'i'; name++) text.append("leaver ").append(name).append(" 0 1 9 0; ");
        return text.toString();
    }

    /** A TELL for each CELL: so many deep, by y, then x. */
    static String depths(int along, int... deep) {
        StringBuilder text = new StringBuilder();
        for (int i = 0; i < deep.length; i++) {
            text.append("depth ").append(i % along).append(' ').append(i / along).append(' ').append(deep[i]).append("; ");
        }
        return text.toString();
    }

    /** These CELLS (100 * y + x) are 0 deep. */
    static String flat(int... cells) {
        StringBuilder text = new StringBuilder();
        for (int at : cells) text.append("depth ").append(at % 100).append(' ').append(at / 100).append(" 0; ");
        return text.toString();
    }
}
