import java.util.Random;

/** Texts by chance, most of them without a fault. */
final class RandomTexts {
    private static final String[] VARS = {"stones", "deep", "force", "moss", "across", "along"};
    private static final String[] PIECES = {"river", "depth", "flow", "leap", "leaver", "flood", "carry", "slip", "if",
        "then", "else", "stones", "deep", "force", "moss", "across", "along", ";", "=", "+", "-", "*", "/", "<", "(",
        ")", "0", "1", "9", "12", "13", "99", "100", "200", "9999", "12345", "ann", "bob", "abcdefgh", "abcdefghi",
        "stone", "riverx", "A", ">", "\u00e9", "\u0000", "\u007f", "_", "\u000b"};

    private final Random chance;

    RandomTexts(Random chance) {
        this.chance = chance;
    }

    /** A small river, mostly with cells so flat that one gets over now and then. */
    String river() {
        StringBuilder text = new StringBuilder();
        int along = 1 + chance.nextInt(6);
        int across = 1 + chance.nextInt(4);
        if (chance.nextInt(12) == 0) {
            along = 1 + chance.nextInt(12);
            across = 1 + chance.nextInt(8);
        }
        if (chance.nextInt(10) != 0) text.append("river ").append(along).append(' ').append(across).append(';');
        int deepest = 1 + chance.nextInt(4);
        int depths = chance.nextInt(21);
        for (int i = 0; i < depths; i++) {
            text.append(" depth ").append(chance.nextInt(along)).append(' ').append(chance.nextInt(across)).append(' ')
                .append(chance.nextInt(8) == 0 ? chance.nextInt(10) : chance.nextInt(deepest)).append(';');
        }
        for (int i = chance.nextInt(4); i > 0; i--) {
            text.append("flow ").append(chance.nextInt(across)).append(' ').append(chance.nextInt(10)).append(";\n");
        }
        if (chance.nextInt(2) == 0) text.append("leap ").append(1 + chance.nextInt(chance.nextInt(3) + 2)).append(';');
        int leavers = chance.nextInt(9) == 0 ? 8 : 1 + chance.nextInt(5);
        int griefs = 1 + chance.nextInt(4);
        for (int i = 0; i < leavers; i++) {
            text.append("leaver ").append((char) ('a' + i)).append(' ')
                .append(chance.nextInt(4) == 0 ? chance.nextInt(30) : 0).append(' ').append(1 + chance.nextInt(9))
                .append(' ').append(1 + chance.nextInt(9)).append(' ').append(chance.nextInt(griefs)).append(';');
        }
        for (int i = chance.nextInt(9); i > 0; i--) {
            text.append("flood ").append(chance.nextInt(chance.nextInt(4) == 0 ? 200 : 12)).append(' ')
                .append(1 + chance.nextInt(chance.nextInt(3) == 0 ? 12 : 3)).append(';');
        }
        if (chance.nextInt(8) != 0) text.append("carry ").append(law()).append(";");
        if (chance.nextInt(8) != 0) text.append("slip\t").append(law()).append(";");
        return text.toString();
    }

    /** A wide river with many places to stand on, and with many stones. */
    String manyWays() {
        int along = 4 + chance.nextInt(4);
        int across = 3 + chance.nextInt(4);
        StringBuilder text = new StringBuilder("river ").append(along).append(' ').append(across).append(';');
        for (int i = 0; i < 20; i++) {
            text.append("depth ").append(chance.nextInt(along)).append(' ').append(chance.nextInt(across)).append(" 0;");
        }
        text.append("leap ").append(chance.nextInt(4) == 0 ? 2 : 1).append(';');
        for (char name = 'a'; name < 'i'; name++) text.append("leaver ").append(name).append(" 0 9 9 1;");
        return text.toString();
    }

    /** A deep river with much flow, for which many must give, at griefs of which many are alike. */
    String manyGivers() {
        int along = 1 + chance.nextInt(9);
        int across = 1 + chance.nextInt(6);
        StringBuilder text = new StringBuilder("river ").append(along).append(' ').append(across).append(';');
        for (int i = 0; i < 20; i++) {
            text.append("depth ").append(chance.nextInt(along)).append(' ').append(chance.nextInt(across)).append(' ')
                .append(1 + chance.nextInt(6)).append(';');
        }
        for (int y = 0; y < across; y++) text.append("flow ").append(y).append(' ').append(chance.nextInt(10)).append(';');
        if (chance.nextInt(3) == 0) text.append("leap 2;");
        int griefs = 1 + chance.nextInt(4);
        int many = 2 + chance.nextInt(4);
        for (int i = 2 + chance.nextInt(7); i > 0; i--) {
            text.append("leaver ").append((char) ('a' + i)).append(" 0 ").append(1 + chance.nextInt(9)).append(' ')
                .append(1 + chance.nextInt(many)).append(' ').append(chance.nextInt(griefs)).append(';');
        }
        return text.toString();
    }

    String law() {
        StringBuilder text = new StringBuilder("=");
        for (int i = chance.nextInt(6) == 0 ? chance.nextInt(5) : chance.nextInt(2); i > 0; i--) {
            text.append("if ").append(sum(0)).append('<').append(sum(0)).append("then ").append(sum(0))
                .append("else ");
        }
        return text.append(sum(0)).toString();
    }

    private String sum(int brackets) {
        StringBuilder text = new StringBuilder(unit(brackets));
        for (int i = chance.nextInt(3); i > 0; i--) {
            text.append("+-*/+-*+-".charAt(chance.nextInt(9))).append(unit(brackets));
        }
        return text.append(' ').toString();
    }

    private String unit(int brackets) {
        int kind = chance.nextInt(10);
        if (kind < 1 && brackets < 6) return "(" + sum(brackets + 1) + ")";
        if (kind < 6) return VARS[chance.nextInt(6)];
        return String.valueOf(chance.nextInt(20) == 0 ? chance.nextInt(10000) : chance.nextInt(5));
    }

    /** A text in which something was put, taken or changed. */
    String broken() {
        StringBuilder text = new StringBuilder(river());
        for (int i = 1 + chance.nextInt(3); i > 0 && text.length() > 0; i--) {
            int at = chance.nextInt(text.length() + 1);
            switch (chance.nextInt(6)) {
                case 5: text = otherNumber(text); break;
                case 0: text.insert(at, " " + piece() + " "); break;
                case 1: text.insert(at, piece()); break;
                case 2: text.delete(at, Math.min(text.length(), at + 1 + chance.nextInt(4))); break;
                case 3: text.setLength(at); break;
                default: if (at < text.length()) text.setCharAt(at, piece().charAt(0)); break;
            }
        }
        return text.toString();
    }

    private StringBuilder otherNumber(StringBuilder text) {
        String[] numbers = {"0", "1", "4", "5", "7", "8", "9", "10", "11", "12", "13", "99", "100", "199", "200", "0009"};
        java.util.regex.Matcher number = java.util.regex.Pattern.compile("[0-9]+").matcher(text);
        int skip = chance.nextInt(80);
        while (number.find()) {
            if (skip-- > 0) continue;
            return text.replace(number.start(), number.end(), numbers[chance.nextInt(numbers.length)]);
        }
        return text;
    }

    /** Words and signs that mostly go on rightly, until they don't or there is no room for more. */
    String filled() {
        StringBuilder text = new StringBuilder();
        int kind = chance.nextInt(7);
        for (int i = 0; i < 140 && text.length() < 1900; i++) {
            switch (kind) {
                case 0: text.append("leap 1;"); break;
                case 1: text.append("depth 1 1 1;"); break;
                case 2: text.append("flood 1 1;"); break;
                case 3: text.append("leaver ").append((char) ('a' + i % 26)).append(" 1 1 1 1;"); break;
                case 4: text.append(i == 0 ? "carry=" : "+").append(chance.nextInt(300) == 0 ? ";" : "1"); break;
                case 5: text.append(i == 0 ? "slip=" : i % 5 == 4 ? "1;carry=" : "if 1<2 then 3 else "); break;
                default: text.append(i == 0 ? "slip=" : chance.nextInt(9) == 0 ? "1+" : "("); break;
            }
            if (chance.nextInt(400) == 0) text.append(piece());
        }
        if (chance.nextInt(2) == 0) text.append(";");
        return text.toString();
    }

    private String piece() {
        return PIECES[chance.nextInt(PIECES.length)];
    }
}
