import java.util.Random;

/** Runs of calls by chance (the same ones each time), each answered by the program and by the document's model. */
public final class AgainstModelTest {
    private static final int RUNS = 1000;
    private static final int CALLS = 250;

    private final Check check = new Check("AgainstModelTest");
    private final Random chance = new Random(20261118);
    private final RandomTexts texts = new RandomTexts(chance);
    private FarewellStones stones;
    private Model model;

    public static void main(String[] args) {
        new AgainstModelTest().run();
    }

    private void run() {
        for (int i = 0; i < RUNS && check.isClean(); i++) {
            begin();
            int calls = 0;
            if (i % 10 != 0) calls += read(texts.river());
            for (; calls < CALLS && check.isClean(); calls++) {
                if (chance.nextInt(90) == 0) calls += read(anyText());
                else call();
            }
        }
        for (int i = 0; i < 6000 && check.isClean(); i++) {
            begin();
            read(anyText());
        }
        for (int i = 0; i < 60 && check.isClean(); i++) manyWays();
        for (int i = 0; i < 1500 && check.isClean(); i++) manyGivers();
        check.end();
    }

    private void begin() {
        stones = new FarewellStones();
        model = new Model();
    }

    private void manyWays() {
        begin();
        feed(texts.manyWays());
        readTape("manyWays", 0);
        for (int i = 0; i < 72; i++) {
            int x = chance.nextInt(model.count(0));
            int y = chance.nextInt(model.count(1));
            check.due("hurl " + i / 9 + " " + x + " " + y, stones.hurl(i / 9, x, y), model.hurl(i / 9, x, y));
            check.due("fords", stones.fords(), model.fords());
        }
    }

    private void manyGivers() {
        begin();
        feed(texts.manyGivers());
        readTape("manyGivers", 0);
        griefs();
        for (int i = 0; i < 4; i++) {
            int who = chance.nextInt(model.count(3));
            check.due("hurl " + who, stones.hurl(who, 0, 0), model.hurl(who, 0, 0));
        }
        griefs();
    }

    private String anyText() {
        switch (chance.nextInt(8)) {
            case 0: return texts.filled();
            case 1: case 2: case 3: return texts.broken();
            default: return texts.river();
        }
    }

    private int read(String text) {
        int calls = feed(text);
        return calls + readTape(text, chance.nextInt(3) == 0 ? chance.nextInt(30) - 2 : 0);
    }

    private int feed(String text) {
        int calls = 0;
        while (text.length() % 20 != 0) text += " ";
        for (int at = 0; at < text.length(); at += 20) {
            int[] w = new int[5];
            for (int i = 0; i < 5; i++) w[i] = Check.four(text, at + 4 * i);
            check.due("feed", stones.feed(w[0], w[1], w[2], w[3], w[4]), model.feed(w));
            calls++;
        }
        return calls;
    }

    private int readTape(String text, int back) {
        check.due("back " + back, stones.back(back), model.back(back));
        int want = model.read();
        check.due("read of " + text, stones.read(), want);
        check.due("place of " + want + " in " + text, stones.place(), model.place());
        return 3;
    }

    private int x() {
        return chance.nextInt(20) == 0 ? odd() : chance.nextInt(Math.max(1, model.count(0)));
    }

    private int y() {
        return chance.nextInt(20) == 0 ? odd() : chance.nextInt(Math.max(1, model.count(1)));
    }

    private int who() {
        return chance.nextInt(15) == 0 ? odd() : chance.nextInt(Math.max(1, model.count(3)));
    }

    private int some(int bound) {
        return chance.nextInt(20) == 0 ? odd() : chance.nextInt(bound);
    }

    /** Something that is likely to be no such thing. */
    private int odd() {
        int[] odd = {-1, -2, -1000, Integer.MIN_VALUE, Integer.MAX_VALUE, 8, 12, 13, 20, 96, 100, 101, 1 << 16, 3, 61};
        return odd[chance.nextInt(odd.length)];
    }

    private void call() {
        int kind = chance.nextInt(40);
        if (kind < 9) {
            int who = who();
            int x = x();
            int y = y();
            check.due("hurl " + who + " " + x + " " + y, stones.hurl(who, x, y), model.hurl(who, x, y));
        } else if (kind < 12) {
            int n = chance.nextInt(4) == 0 ? some(101) : some(4);
            check.due("days " + n, stones.days(n), model.days(n));
        } else if (kind < 14) {
            change();
        } else {
            ask(kind);
        }
    }

    private void change() {
        int slot = some(3);
        switch (chance.nextInt(5)) {
            case 0: check.due("undo", stones.undo(), model.undo()); break;
            case 1: check.due("hold " + slot, stones.hold(slot), model.hold(slot)); break;
            case 2: check.due("restore " + slot, stones.restore(slot), model.restore(slot)); break;
            case 3:
                if (chance.nextInt(4) == 0) check.due("forget", stones.forget(), model.forget());
                break;
            default:
                for (int n = chance.nextInt(8) == 0 ? 30 : 1; n > 0; n--) {
                    check.due("undo", stones.undo(), model.undo());
                }
                break;
        }
    }

    private void ask(int kind) {
        int x = x();
        int y = y();
        int who = who();
        int by = some(2);
        switch (kind) {
            case 14: case 15: case 16: case 17:
                int what = some(7);
                check.due("cell " + x + " " + y + " " + what, stones.cell(x, y, what), model.cell(x, y, what));
                break;
            case 18:
                int i = some(5);
                check.due("stone " + x + " " + y + " " + i, stones.stone(x, y, i), model.stone(x, y, i));
                break;
            case 19:
                int of = some(6);
                check.due("leaver " + who + " " + of, stones.leaver(who, of), model.leaver(who, of));
                break;
            case 20: case 21:
                int step = some(6);
                check.due("over " + by + " " + step, stones.over(by, step % 3), model.over(by, step % 3));
                check.due("overAt " + by + " " + step, stones.overAt(by, step), model.overAt(by, step));
                break;
            case 22: case 23: allOver(); break;
            case 24: case 25: lacks(); break;
            case 26: case 27: griefs(); break;
            case 28: check.due("needed", stones.needed(), model.needed()); break;
            case 29: check.due("alone", stones.alone(), model.alone()); break;
            case 30: case 31: check.due("breaks", stones.breaks(), model.breaks()); break;
            case 32: check.due("fords", stones.fords(), model.fords()); break;
            case 33: case 34:
                int many = chance.nextInt(3) == 0 ? some(3) : Math.max(0, model.cell(x, y, 0));
                check.due("tell " + x + " " + y + " " + many, stones.tell(x, y, many), model.tell(x, y, many));
                break;
            case 35: case 36: case 37: fits(who); break;
            case 38:
                for (int each = -1; each < 14; each++) {
                    check.due("count " + each, stones.count(each), model.count(each));
                }
                break;
            default: wholeRiver(); break;
        }
    }

    private void allOver() {
        for (int by = 0; by < 2; by++) {
            for (int what = 0; what < 2; what++) {
                check.due("over " + by + " " + what, stones.over(by, what), model.over(by, what));
            }
            int leaps = model.over(by, 0);
            for (int i = 0; i <= leaps; i++) check.due("overAt " + by + " " + i, stones.overAt(by, i), model.overAt(by, i));
        }
    }

    private void lacks() {
        for (int what = -1; what < 3; what++) check.due("lack " + what, stones.lack(what), model.lack(what));
        for (int i = -1; i < model.lack(1); i++) check.due("lackAt " + i, stones.lackAt(i), model.lackAt(i));
    }

    private void griefs() {
        check.due("grief", stones.grief(), model.grief());
        for (int who = -1; who <= model.count(3); who++) {
            check.due("gives " + who, stones.gives(who), model.gives(who));
        }
    }

    private void fits(int who) {
        int k = chance.nextInt(3) == 0 ? some(3) : Math.min(model.count(11), some(4));
        int n = chance.nextInt(2) == 0 ? some(4) : some(61);
        for (int i = -2; i < 5; i++) {
            check.due("fits " + who + " " + k + " " + n + " " + i, stones.fits(who, k, n, i), model.fits(who, k, n, i));
        }
    }

    private void wholeRiver() {
        for (int y = 0; y < model.count(1); y++) {
            for (int x = 0; x < model.count(0); x++) {
                for (int what = 0; what < 6; what++) {
                    check.due("cell " + x + " " + y + " " + what, stones.cell(x, y, what), model.cell(x, y, what));
                }
                for (int i = 0; i <= model.cell(x, y, 0); i++) {
                    check.due("stone " + x + " " + y + " " + i, stones.stone(x, y, i), model.stone(x, y, i));
                }
            }
        }
        for (int who = 0; who < model.count(3); who++) {
            for (int what = 0; what < 5; what++) {
                check.due("leaver " + who + " " + what, stones.leaver(who, what), model.leaver(who, what));
            }
        }
    }
}
