import java.util.ArrayDeque;
import java.util.ArrayList;
import java.util.Arrays;
import java.util.Collections;
import java.util.Deque;
import java.util.HashMap;
import java.util.HashSet;
import java.util.LinkedHashSet;
import java.util.List;
import java.util.Map;
import java.util.Set;

/**
 * The document once more, word by word and by other means than the program's, however slow: a grammar whose stacks
 * are all tried, MOSS that grows day by day, ways that are compared as lists, griefs by trying all.
 */
final class Model {
    static final int NONE = -1;
    private static final int[][] NO_CELLS = {};

    private record Token(String kind, String text, int start) { }

    private record Leaver(String name, int day, int size, int many, int grief) { }

    private record Flood(int day, int force) { }

    private record Told(int x, int y, int stones) { }

    private record Cost(int first, int second, List<Integer> line) implements Comparable<Cost> {
        public int compareTo(Cost other) {
            if (first != other.first) return Integer.compare(first, other.first);
            if (second != other.second) return Integer.compare(second, other.second);
            for (int i = 0; i < Math.min(line.size(), other.line.size()); i++) {
                int order = Integer.compare(line.get(i), other.line.get(i));
                if (order != 0) return order;
            }
            return 0;
        }
    }

    @SuppressWarnings("serial")
    private static final class DividedByZero extends RuntimeException { }

    private static final class State {
        int day;
        List<List<Integer>> piles = new ArrayList<>();
        int[] moss;
        int[] thrown;
        int[] lost;

        State(int cells, int leavers) {
            for (int i = 0; i < cells; i++) piles.add(new ArrayList<>());
            moss = new int[cells];
            thrown = new int[leavers];
            lost = new int[leavers];
        }

        State copy() {
            State copy = new State(0, 0);
            copy.day = day;
            for (List<Integer> pile : piles) copy.piles.add(new ArrayList<>(pile));
            copy.moss = moss.clone();
            copy.thrown = thrown.clone();
            copy.lost = lost.clone();
            return copy;
        }
    }

    private final List<Integer> tape = new ArrayList<>();
    private int faultPlace = NONE;
    private int along;
    private int across;
    private int leap;
    private int[] depth;
    private int[] flow;
    private List<Leaver> leavers;
    private List<Flood> floods;
    private List<List<Token>> carry;
    private List<List<Token>> slip;
    private State now;
    private Deque<State> past = new ArrayDeque<>();
    private List<Told> told = new ArrayList<>();
    private State[] slots = new State[3];

    Model() {
        become(List.of());
    }

    // ---- texts ----

    int feed(int... words) {
        if (tape.size() + 20 > 2000) return NONE;
        for (int word : words) for (int i = 3; i >= 0; i--) tape.add(word >> 8 * i & 255);
        return tape.size();
    }

    int back(int n) {
        if (n < 0 || n > tape.size()) return NONE;
        for (int i = 0; i < n; i++) tape.remove(tape.size() - 1);
        return tape.size();
    }

    int place() {
        return faultPlace;
    }

    private static final Set<String> WORDS = Set.of("river", "depth", "flow", "leap", "leaver", "flood", "carry",
        "slip", "if", "then", "else", "stones", "deep", "force", "moss", "across", "along");

    private static final Map<String, List<List<String>>> GRAMMAR = grammar();

    private static Map<String, List<List<String>>> grammar() {
        Map<String, List<List<String>>> rules = new HashMap<>();
        String[] lines = {
            "TEXT>", "TEXT>TELL TEXT",
            "TELL>river INT INT ;", "TELL>depth INT INT INT ;", "TELL>flow INT INT ;", "TELL>leap INT ;",
            "TELL>leaver NAME INT INT INT INT ;", "TELL>flood INT INT ;", "TELL>carry = LAW ;", "TELL>slip = LAW ;",
            "LAW>E", "LAW>if E < E then E else LAW",
            "E>PART MORE", "MORE>", "MORE>+ PART MORE", "MORE>- PART MORE",
            "PART>UNIT TIMES", "TIMES>", "TIMES>* UNIT TIMES", "TIMES>/ UNIT TIMES",
            "UNIT>INT", "UNIT>( E )", "UNIT>stones", "UNIT>deep", "UNIT>force", "UNIT>moss", "UNIT>across",
            "UNIT>along"};
        for (String line : lines) {
            int cut = line.indexOf('>');
            String body = line.substring(cut + 1);
            List<String> parts = body.isEmpty() ? List.of() : List.of(body.split(" "));
            rules.computeIfAbsent(line.substring(0, cut), key -> new ArrayList<>()).add(parts);
        }
        return rules;
    }

    private List<Token> tokens() {
        StringBuilder text = new StringBuilder();
        for (int sign : tape) text.append((char) sign);
        List<Token> tokens = new ArrayList<>();
        java.util.regex.Matcher matcher = java.util.regex.Pattern.compile(
            "([a-z]+)|([0-9]+)|([;=+*/<()-])|([\\t\\n\\r ]+)|([\\x00-\\xff])").matcher(text);
        while (matcher.find()) {
            String found = matcher.group();
            String kind = "none";
            if (matcher.group(4) != null) continue;
            if (matcher.group(1) != null) {
                if (WORDS.contains(found)) kind = found;
                else if (found.length() <= 8) kind = "NAME";
            } else if (matcher.group(2) != null) {
                if (found.length() <= 4) kind = "INT";
            } else if (matcher.group(3) != null) {
                kind = found;
            }
            tokens.add(new Token(kind, found, matcher.start()));
        }
        return tokens;
    }

    private static Set<List<String>> after(Set<List<String>> stacks, String kind) {
        Set<List<String>> next = new LinkedHashSet<>();
        Deque<List<String>> open = new ArrayDeque<>(stacks);
        Set<List<String>> seen = new HashSet<>(stacks);
        while (!open.isEmpty()) {
            List<String> stack = open.pop();
            if (stack.isEmpty()) continue;
            String top = stack.get(0);
            List<String> rest = stack.subList(1, stack.size());
            if (!GRAMMAR.containsKey(top)) {
                if (top.equals(kind)) next.add(new ArrayList<>(rest));
                continue;
            }
            for (List<String> body : GRAMMAR.get(top)) {
                List<String> grown = new ArrayList<>(body);
                grown.addAll(rest);
                if (seen.add(grown)) open.push(grown);
            }
        }
        return next;
    }

    private static boolean canEnd(Set<List<String>> stacks) {
        for (List<String> stack : stacks) {
            if (stack.stream().allMatch(part -> GRAMMAR.containsKey(part) && GRAMMAR.get(part).contains(List.of()))) {
                return true;
            }
        }
        return false;
    }

    int read() {
        List<Token> tokens = tokens();
        int length = tape.size();
        tape.clear();
        int[] fault = firstFault(tokens, length);
        if (fault == null) fault = laterFault(tokens);
        faultPlace = fault == null ? NONE : fault[1];
        if (fault != null) return fault[0];
        become(tokens);
        return 0;
    }

    private static int[] firstFault(List<Token> tokens, int length) {
        Set<List<String>> stacks = Set.of(List.of("TEXT"));
        Map<String, Integer> counts = new HashMap<>();
        int open = 0;
        for (int i = 0; i < tokens.size(); i++) {
            Token token = tokens.get(i);
            stacks = after(stacks, token.kind);
            if (stacks.isEmpty()) return new int[] {1, token.start};
            int count = counts.merge(token.kind, 1, Integer::sum);
            if (token.kind.equals("carry") || token.kind.equals("slip")) counts.remove("if");
            if (token.kind.equals("(")) open++;
            if (token.kind.equals(")")) open--;
            boolean room = i >= 400 || token.kind.equals("depth") && count > 20
                || (token.kind.equals("leaver") || token.kind.equals("flood")) && count > 8
                || token.kind.equals("if") && count > 4 || open > 6;
            if (room) return new int[] {2, token.start};
        }
        return canEnd(stacks) ? null : new int[] {1, length};
    }

    private static final Map<String, int[][]> BOUNDS = Map.of("river", new int[][] {{1, 12}, {1, 8}},
        "depth", new int[][] {{0, 11}, {0, 7}, {0, 9}}, "flow", new int[][] {{0, 7}, {0, 9}},
        "leap", new int[][] {{1, 4}}, "leaver", new int[][] {null, {0, 99}, {1, 9}, {1, 9}, {0, 99}},
        "flood", new int[][] {{0, 199}, {1, 12}}, "carry", NO_CELLS, "slip", NO_CELLS);

    private static int[] laterFault(List<Token> tokens) {
        Set<String> names = new HashSet<>();
        for (List<Token> tell : tells(tokens)) {
            int[][] bounds = BOUNDS.get(tell.get(0).kind);
            for (int i = 0; i < bounds.length; i++) {
                Token token = tell.get(i + 1);
                if (bounds[i] == null) {
                    if (!names.add(token.text)) return new int[] {3, token.start};
                } else {
                    int value = Integer.parseInt(token.text);
                    if (value < bounds[i][0] || value > bounds[i][1]) return new int[] {5, token.start};
                }
            }
        }
        return null;
    }

    private static List<List<Token>> tells(List<Token> tokens) {
        List<List<Token>> tells = new ArrayList<>();
        List<Token> tell = new ArrayList<>();
        for (Token token : tokens) {
            if (token.kind.equals(";")) {
                tells.add(tell);
                tell = new ArrayList<>();
            } else {
                tell.add(token);
            }
        }
        return tells;
    }

    private void become(List<Token> tokens) {
        along = 8;
        across = 4;
        leap = 1;
        depth = new int[12 * 8];
        Arrays.fill(depth, 1);
        flow = new int[8];
        leavers = new ArrayList<>();
        floods = new ArrayList<>();
        carry = null;
        slip = null;
        for (List<Token> tell : tells(tokens)) {
            String kind = tell.get(0).kind;
            if (kind.equals("carry")) carry = law(tell.subList(2, tell.size()));
            if (kind.equals("slip")) slip = law(tell.subList(2, tell.size()));
            if (kind.equals("carry") || kind.equals("slip")) continue;
            int[] told = tell.stream().filter(t -> t.kind.equals("INT")).mapToInt(t -> Integer.parseInt(t.text))
                .toArray();
            if (kind.equals("river")) {
                along = told[0];
                across = told[1];
            }
            if (kind.equals("depth")) depth[told[1] * 12 + told[0]] = told[2];
            if (kind.equals("flow")) flow[told[0]] = told[1];
            if (kind.equals("leap")) leap = told[0];
            if (kind.equals("leaver")) {
                leavers.add(new Leaver(tell.get(1).text, told[0], told[1], told[2], told[3]));
            }
            if (kind.equals("flood")) floods.add(new Flood(told[0], told[1]));
        }
        now = new State(96, leavers.size());
        past.clear();
        told.clear();
        slots = new State[3];
    }

    /** The E of a LAW, in their order: less, more, then; less, more, then; ..; else. */
    private static List<List<Token>> law(List<Token> tokens) {
        List<List<Token>> parts = new ArrayList<>();
        List<Token> part = new ArrayList<>();
        for (Token token : tokens) {
            switch (token.kind) {
                case "if":
                    break;
                case "<", "then", "else":
                    parts.add(part);
                    part = new ArrayList<>();
                    break;
                default:
                    part.add(token);
            }
        }
        parts.add(part);
        return parts;
    }

    private static int tells(List<List<Token>> law, Map<String, Integer> seen) {
        if (law == null) return 0;
        try {
            int i = 0;
            for (; i + 3 <= law.size() - 1; i += 3) {
                if (value(law.get(i), seen) < value(law.get(i + 1), seen)) return value(law.get(i + 2), seen);
            }
            return value(law.get(i), seen);
        } catch (DividedByZero e) {
            return 0;
        }
    }

    private static int value(List<Token> part, Map<String, Integer> seen) {
        if (part.size() == 1) {
            Token token = part.get(0);
            return token.kind.equals("INT") ? Integer.parseInt(token.text) : seen.get(token.kind);
        }
        int cut = lastOutside(part, "+", "-");
        if (cut < 0) cut = lastOutside(part, "*", "/");
        if (cut < 0) return value(part.subList(1, part.size() - 1), seen);
        long left = value(part.subList(0, cut), seen);
        long right = value(part.subList(cut + 1, part.size()), seen);
        switch (part.get(cut).kind) {
            case "+": return (int) (left + right);
            case "-": return (int) (left - right);
            case "*": return (int) (left * right);
            default:
                if (right == 0) throw new DividedByZero();
                return (int) (left / right);
        }
    }

    private static int lastOutside(List<Token> part, String one, String other) {
        int open = 0;
        for (int i = part.size() - 1; i >= 0; i--) {
            String kind = part.get(i).kind;
            if (kind.equals(")")) open++;
            if (kind.equals("(")) open--;
            if (open == 0 && (kind.equals(one) || kind.equals(other))) return i;
        }
        return -1;
    }

    private int tells(List<List<Token>> law, State state, int at, int force) {
        return tells(law, Map.of("stones", state.piles.get(at).size(), "deep", depth[at], "force", force, "moss",
            state.moss[at], "across", at / 12, "along", at % 12));
    }

    // ---- what is ----

    private boolean has(int x, int y) {
        return x >= 0 && x < along && y >= 0 && y < across;
    }

    private List<Integer> cells() {
        List<Integer> cells = new ArrayList<>();
        for (int y = 0; y < across; y++) for (int x = 0; x < along; x++) cells.add(y * 12 + x);
        return cells;
    }

    private boolean isStep(State state, int at) {
        return state.piles.get(at).size() >= depth[at];
    }

    private int slippery(State state, int at) {
        return Math.max(0, Math.min(100, tells(slip, state, at, 0)));
    }

    int cell(int x, int y, int what) {
        if (!has(x, y) || what < 0 || what > 5) return NONE;
        int at = y * 12 + x;
        List<Integer> pile = now.piles.get(at);
        return new int[] {pile.size(), depth[at], now.moss[at], isStep(now, at) ? 1 : 0,
            isStep(now, at) ? slippery(now, at) : -2, pile.isEmpty() ? -2 : pile.get(pile.size() - 1)}[what];
    }

    int stone(int x, int y, int i) {
        if (!has(x, y)) return NONE;
        List<Integer> pile = now.piles.get(y * 12 + x);
        return i < 0 || i >= pile.size() ? NONE : pile.get(i);
    }

    int leaver(int leaver, int what) {
        if (leaver < 0 || leaver >= leavers.size() || what < 0 || what > 4) return NONE;
        int lying = 0;
        for (List<Integer> pile : now.piles) lying += Collections.frequency(pile, leaver);
        return new int[] {leavers.get(leaver).many - now.thrown[leaver], lying, now.lost[leaver],
            leavers.get(leaver).size, may(leaver) ? 1 : 0}[what];
    }

    private boolean may(int leaver) {
        return leaver >= 0 && leaver < leavers.size() && now.thrown[leaver] < leavers.get(leaver).many
            && now.day >= leavers.get(leaver).day;
    }

    int count(int what) {
        if (what < 0 || what > 12) return NONE;
        int lying = 0;
        for (List<Integer> pile : now.piles) lying += pile.size();
        int steps = 0;
        for (int at : cells()) if (isStep(now, at)) steps++;
        int held = 0;
        for (State slot : slots) if (slot != null) held++;
        return new int[] {along, across, leap, leavers.size(), floods.size(), now.day, lying,
            Arrays.stream(now.lost).sum(), steps, tape.size(), past.size(), told.size(), held}[what];
    }

    // ---- what is done ----

    private int hurl(State state, int leaver, int x, int y) {
        state.thrown[leaver]++;
        int to = x + flow[y] / leavers.get(leaver).size;
        if (to >= along) {
            state.lost[leaver]++;
            return -2;
        }
        state.piles.get(y * 12 + to).add(leaver);
        state.moss[y * 12 + to] = 0;
        return 1000 + 100 * y + to;
    }

    private void day(State state) {
        for (int at : cells()) if (!state.piles.get(at).isEmpty()) state.moss[at] = Math.min(99, state.moss[at] + 1);
        for (Flood flood : floods) {
            if (flood.day != state.day) continue;
            for (int y = 0; y < across; y++) {
                for (int x = along - 1; x >= 0; x--) flood(state, flood, x, y);
            }
        }
        state.day++;
    }

    private void flood(State state, Flood flood, int x, int y) {
        int at = y * 12 + x;
        List<Integer> pile = state.piles.get(at);
        int go = Math.max(0, Math.min(pile.size(), tells(carry, state, at, flood.force)));
        if (go == 0) return;
        List<Integer> gone = new ArrayList<>(pile.subList(pile.size() - go, pile.size()));
        for (int i = 0; i < go; i++) pile.remove(pile.size() - 1);
        state.moss[at] = 0;
        if (x + flood.force >= along) {
            for (int owner : gone) state.lost[owner]++;
        } else {
            state.piles.get(at + flood.force).addAll(gone);
            state.moss[at + flood.force] = 0;
        }
    }

    private void remember() {
        past.push(now.copy());
        if (past.size() > 25) past.removeLast();
    }

    int hurl(int leaver, int x, int y) {
        if (!has(x, y) || !may(leaver)) return NONE;
        remember();
        return hurl(now, leaver, x, y);
    }

    int days(int n) {
        if (n < 0 || n > 100) return NONE;
        if (n > 0) remember();
        for (int i = 0; i < n; i++) day(now);
        return now.day;
    }

    boolean undo() {
        if (past.isEmpty()) return false;
        now = past.pop();
        return true;
    }

    boolean hold(int slot) {
        if (slot < 0 || slot > 2) return false;
        slots[slot] = now.copy();
        return true;
    }

    boolean restore(int slot) {
        if (slot < 0 || slot > 2 || slots[slot] == null) return false;
        now = slots[slot].copy();
        past.clear();
        return true;
    }

    // ---- ways ----

    private static final int[] NO_WAY = null;

    /** The best way over CELLS of these weights (below 0: none); a LEAP counts 1. */
    private Cost best(int[] weight, boolean leapsFirst) {
        Cost[] rest = new Cost[96];
        for (boolean changed = true; changed;) {
            changed = false;
            for (int at : cells()) {
                if (weight[at] < 0) continue;
                Cost better = rest[at];
                if (across - at / 12 <= leap) better = less(better, joined(at, weight[at], null, leapsFirst));
                for (int to : cells()) {
                    if (to == at || rest[to] == null || apart(at, to) > leap || rest[to].line.contains(at)) continue;
                    better = less(better, joined(at, weight[at], rest[to], leapsFirst));
                }
                if (better != null && (rest[at] == null || better.compareTo(rest[at]) < 0)) {
                    rest[at] = better;
                    changed = true;
                }
            }
        }
        Cost best = null;
        if (across + 1 <= leap) best = leapsFirst ? new Cost(1, 0, List.of()) : new Cost(0, 1, List.of());
        for (int at : cells()) {
            if (rest[at] == null || at / 12 + 1 > leap) continue;
            Cost whole = leapsFirst ? new Cost(rest[at].first + 1, rest[at].second, rest[at].line)
                : new Cost(rest[at].first, rest[at].second + 1, rest[at].line);
            best = less(best, whole);
        }
        return best;
    }

    private static Cost joined(int at, int weight, Cost rest, boolean leapsFirst) {
        List<Integer> line = new ArrayList<>(List.of(at));
        int first = leapsFirst ? 1 : weight;
        int second = leapsFirst ? weight : 1;
        if (rest == null) return new Cost(first, second, line);
        line.addAll(rest.line);
        return new Cost(first + rest.first, second + rest.second, line);
    }

    private static Cost less(Cost one, Cost other) {
        return one == null || other.compareTo(one) < 0 ? other : one;
    }

    private static int apart(int one, int other) {
        return Math.abs(one / 12 - other / 12) + Math.abs(one % 12 - other % 12);
    }

    private Cost wayOver(int by) {
        int[] weight = new int[96];
        Arrays.fill(weight, -1);
        for (int at : cells()) if (isStep(now, at)) weight[at] = slippery(now, at);
        return best(weight, by == 0);
    }

    int over(int by, int what) {
        if (by < 0 || by > 1 || what < 0 || what > 1) return NONE;
        Cost way = wayOver(by);
        if (way == null) return -2;
        return what == 0 ? way.line.size() + 1 : way.line.stream().mapToInt(at -> slippery(now, at)).sum();
    }

    int overAt(int by, int i) {
        if (by < 0 || by > 1 || i < 0) return NONE;
        Cost way = wayOver(by);
        if (way == null) return -2;
        return i < way.line.size() ? name(way.line.get(i)) : NONE;
    }

    private static int name(int at) {
        return at / 12 * 100 + at % 12;
    }

    private int lacks(int at) {
        return Math.max(0, depth[at] - now.piles.get(at).size());
    }

    private Cost theLine() {
        int[] weight = new int[96];
        Arrays.fill(weight, -1);
        for (int at : cells()) weight[at] = lacks(at);
        return best(weight, false);
    }

    int lack(int what) {
        if (what < 0 || what > 1) return NONE;
        Cost line = theLine();
        return what == 0 ? line.first : line.second;
    }

    int lackAt(int i) {
        List<Integer> line = theLine().line;
        return i < 0 || i >= line.size() ? NONE : name(line.get(i));
    }

    // ---- grief ----

    private int[] cheapest() {
        List<Integer> needs = new ArrayList<>();
        for (int at : theLine().line) for (int i = 0; i < lacks(at); i++) needs.add(at);
        int[] left = new int[leavers.size()];
        for (int i = 0; i < left.length; i++) left[i] = may(i) ? leavers.get(i).many - now.thrown[i] : 0;
        if (needs.size() > Arrays.stream(left).sum()) return NO_WAY;
        Map<List<Integer>, Integer> known = new HashMap<>();
        int least = least(needs, 0, left, known);
        if (least == NEVER) return NO_WAY;
        int[] gives = new int[leavers.size() + 1];
        gives[leavers.size()] = least;
        for (int i = 0; i < needs.size(); i++) {
            int rest = least(needs, i, left, known);
            for (int leaver = 0; leaver < left.length; leaver++) {
                if (!canGive(needs.get(i), leaver, left)) continue;
                left[leaver]--;
                if (leavers.get(leaver).grief + least(needs, i + 1, left, known) == rest) {
                    gives[leaver]++;
                    break;
                }
                left[leaver]++;
            }
        }
        return gives;
    }

    private static final int NEVER = 1000000;

    private boolean canGive(int at, int leaver, int[] left) {
        return left[leaver] > 0 && at % 12 - flow[at / 12] / leavers.get(leaver).size >= 0;
    }

    private int least(List<Integer> needs, int i, int[] left, Map<List<Integer>, Integer> known) {
        if (i == needs.size()) return 0;
        List<Integer> key = Arrays.stream(left).boxed().toList();
        Integer before = known.get(key);
        if (before != null) return before;
        int best = NEVER;
        for (int leaver = 0; leaver < left.length; leaver++) {
            if (!canGive(needs.get(i), leaver, left)) continue;
            left[leaver]--;
            best = Math.min(best, leavers.get(leaver).grief + least(needs, i + 1, left, known));
            left[leaver]++;
        }
        best = Math.min(best, NEVER);
        known.put(key, best);
        return best;
    }

    int grief() {
        int[] gives = cheapest();
        return gives == NO_WAY ? -2 : gives[leavers.size()];
    }

    int gives(int leaver) {
        if (leaver < 0 || leaver >= leavers.size()) return NONE;
        int[] gives = cheapest();
        return gives == NO_WAY ? -2 : gives[leaver];
    }

    // ---- whose, how long, how many ----

    private boolean leadsOver(int[] heights) {
        if (across < leap) return true;
        Set<Integer> reached = new HashSet<>();
        for (boolean changed = true; changed;) {
            changed = false;
            for (int at : cells()) {
                if (reached.contains(at) || heights[at] < depth[at]) continue;
                boolean comes = at / 12 + 1 <= leap || reached.stream().anyMatch(from -> apart(from, at) <= leap);
                if (comes) changed |= reached.add(at);
            }
        }
        return reached.stream().anyMatch(at -> across - at / 12 <= leap);
    }

    private static int[] heights(State state, java.util.function.IntPredicate counts) {
        return state.piles.stream().mapToInt(pile -> (int) pile.stream().filter(o -> counts.test(o)).count())
            .toArray();
    }

    int needed() {
        if (!leadsOver(heights(now, o -> true))) return 0;
        int bits = 0;
        for (int i = 0; i < leavers.size(); i++) {
            int without = i;
            if (!leadsOver(heights(now, o -> o != without))) bits += 1 << i;
        }
        return bits;
    }

    int alone() {
        int bits = 0;
        for (int i = 0; i < leavers.size(); i++) {
            int only = i;
            if (leadsOver(heights(now, o -> o == only))) bits += 1 << i;
        }
        return bits;
    }

    int breaks() {
        if (!leadsOver(heights(now, o -> true))) return -3;
        State later = now.copy();
        for (int i = 0; i < 200; i++) {
            int day = later.day;
            day(later);
            if (!leadsOver(heights(later, o -> true))) return day;
        }
        return -2;
    }

    int fords() {
        if (across < leap) return -2;
        int[][] room = new int[194][194];
        for (int at : cells()) {
            if (!isStep(now, at)) continue;
            room[2 * at][2 * at + 1] = 1;
            if (at / 12 + 1 <= leap) room[192][2 * at] = 1;
            if (across - at / 12 <= leap) room[2 * at + 1][193] = 1;
            for (int to : cells()) {
                if (to != at && isStep(now, to) && apart(at, to) <= leap) room[2 * at + 1][2 * to] = 1;
            }
        }
        int flows = 0;
        while (push(room, 192, new boolean[194])) flows++;
        return flows;
    }

    private static boolean push(int[][] room, int from, boolean[] seen) {
        if (from == 193) return true;
        seen[from] = true;
        for (int to = 0; to < room.length; to++) {
            if (room[from][to] == 0 || seen[to] || !push(room, to, seen)) continue;
            room[from][to]--;
            room[to][from]++;
            return true;
        }
        return false;
    }

    // ---- told ----

    int tell(int x, int y, int stones) {
        if (told.size() == 20 || !has(x, y) || stones < 0 || stones > 99) return NONE;
        told.add(new Told(x, y, stones));
        return told.size() - 1;
    }

    int forget() {
        int were = told.size();
        told.clear();
        return were;
    }

    int fits(int leaver, int k, int n, int i) {
        if (!may(leaver) || k < 0 || k > told.size() || n < 0 || n > 60 || i < -1) return NONE;
        List<Integer> fitting = new ArrayList<>();
        for (int at : cells()) {
            State later = now.copy();
            hurl(later, leaver, at % 12, at / 12);
            for (int d = 0; d < n; d++) day(later);
            boolean fits = true;
            for (Told one : told.subList(0, k)) fits &= later.piles.get(one.y * 12 + one.x).size() == one.stones;
            if (fits) fitting.add(at);
        }
        if (i == NONE) return fitting.size();
        return i < fitting.size() ? name(fitting.get(i)) : NONE;
    }
}
