/** What the tests share: due answers, and how a text comes onto the tape. */
final class Check {
    private final String name;
    private int asked;
    private int wrong;

    Check(String name) {
        this.name = name;
    }

    void due(String what, long got, long want) {
        asked++;
        if (got == want) return;
        wrong++;
        if (wrong <= 50) System.out.println(name + ": " + what + " answered " + got + ", due is " + want);
    }

    void due(String what, boolean got, boolean want) {
        due(what, got ? 1 : 0, want ? 1 : 0);
    }

    boolean isClean() {
        return wrong == 0;
    }

    /** The last call of a test: tells how it went, and ends with exit code 1 if something was wrong. */
    void end() {
        System.out.println(name + ": " + asked + " answers, " + wrong + " of them wrong");
        if (wrong != 0) System.exit(1);
    }

    /** Feeds a text of Latin-1 characters, and takes back what fills up the last twenty bytes. */
    static void feed(FarewellStones stones, String text) {
        StringBuilder padded = new StringBuilder(text);
        while (padded.length() % 20 != 0) padded.append(' ');
        for (int at = 0; at < padded.length(); at += 20) {
            stones.feed(four(padded, at), four(padded, at + 4), four(padded, at + 8), four(padded, at + 12),
                four(padded, at + 16));
        }
        stones.back(padded.length() - text.length());
    }

    static int read(FarewellStones stones, String text) {
        feed(stones, text);
        return stones.read();
    }

    /** A new object that has read a text. */
    static FarewellStones of(String text) {
        FarewellStones stones = new FarewellStones();
        int fault = read(stones, text);
        if (fault != 0) throw new IllegalStateException("fault " + fault + " at " + stones.place() + ": " + text);
        return stones;
    }

    static int four(CharSequence text, int at) {
        int word = 0;
        for (int i = 0; i < 4; i++) word = word << 8 | text.charAt(at + i) & 255;
        return word;
    }
}
