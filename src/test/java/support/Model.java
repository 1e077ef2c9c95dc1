import java.math.BigInteger;
import java.util.ArrayDeque;
import java.util.ArrayList;
import java.util.Arrays;
import java.util.Deque;
import java.util.HashMap;
import java.util.List;
import java.util.Map;
import java.util.regex.Matcher;
import java.util.regex.Pattern;

/**
 * The document once more, written apart from the program and as straight as the Java library allows,
 * without any care for speed or room: what the program answers is held against this.
 */
final class Model {
    private static final int NONE = -1, UNKNOWN = -2, OUTSIDE = -3, NOT = -4, FULL = -5;
    private static final int NULL = -11, EMPTY = -12, CAST = -13, ROOM = -14, LOOP = -15, SIZE = -16;
    private static final List<String> KINDS = List.of("plain", "deep", "rich", "barred", "mean");
    private static final Pattern TOKEN = Pattern.compile("[a-z]+|[0-9]+|[^ ]", Pattern.DOTALL);

    private static final class State {
        int h = 3;
        int[] kind = new int[6];
        int[] seeds = {4, 4, 4, 4, 4, 4};
        int[] barn = new int[2];
        int turn = 0;
        int moves = 0;

        static State first(int h) {
            State s = new State();
            s.h = h;
            s.kind = new int[2 * h];
            s.seeds = new int[2 * h];
            Arrays.fill(s.seeds, 4);
            return s;
        }

        State copy() {
            State s = new State();
            s.h = h;
            s.kind = kind.clone();
            s.seeds = seeds.clone();
            s.barn = barn.clone();
            s.turn = turn;
            s.moves = moves;
            return s;
        }

        List<Integer> going() {
            List<Integer> all = new ArrayList<>();
            for (int k = turn * h; k < turn * h + h; k++) {
                if (lifted(kind[k], seeds[k]) > 0) {
                    all.add(k);
                }
            }
            return all;
        }

        State after(int k) {
            State s = copy();
            int me = turn;
            int hand = lifted(kind[k], seeds[k]);
            s.seeds[k] -= hand;
            int at = k;
            int idle = 0;
            while (hand > 0 && idle < 3 * s.seeds.length) {
                at = (at + 1) % s.seeds.length;
                if (at == k || !takes(s.kind[at], s.seeds[at])) {
                    idle++;
                    continue;
                }
                idle = 0;
                s.seeds[at]++;
                hand--;
            }
            if (hand > 0) {
                s.barn[me] += hand;
            } else {
                while (at / h != me && yields(s.kind[at], s.seeds[at])) {
                    s.barn[me] += s.seeds[at];
                    s.seeds[at] = 0;
                    at = (at + s.seeds.length - 1) % s.seeds.length;
                }
            }
            s.turn = 1 - me;
            s.moves++;
            return s;
        }

        int lead(int side) {
            return barn[side] - barn[1 - side];
        }
    }

    private record Thing(int what, int v) {
    }

    private static final class Crate {
        int room;
        final List<Thing> things = new ArrayList<>();
    }

    private record Best(int lead, List<Integer> line) {
    }

    private State told = new State();
    private State now = new State();
    private final Deque<State> past = new ArrayDeque<>();
    private final Map<Integer, State> kept = new HashMap<>();
    private String text = "";
    private final List<int[]> seen = new ArrayList<>();
    private final Map<Integer, Crate> crates = new HashMap<>();

    static int lifted(int kind, int g) {
        return switch (kind) {
            case 1 -> g == 0 ? 0 : g - 1;
            case 3 -> 0;
            case 4 -> g / 2 + g % 2;
            default -> g;
        };
    }

    static boolean takes(int kind, int g) {
        return kind == 4 ? g < 3 : kind != 3 && g < 99;
    }

    static boolean yields(int kind, int g) {
        return kind < 3 && (g == 2 || g == 3) || kind == 2 && (g == 4 || g == 5);
    }

    private boolean isHouse(int k) {
        return k >= 0 && k < 2 * now.h;
    }

    private static boolean isBox(int b) {
        return b >= 0 && b <= 4;
    }

    int write(int letter) {
        if (letter < 0 || letter > 255) {
            return OUTSIDE;
        }
        if (text.length() == 200) {
            return FULL;
        }
        text += (char) letter;
        return text.length();
    }

    int erase() {
        int n = text.length();
        text = "";
        return n;
    }

    // Answers the place of the FAULT, or -1 less the number of CLAUSES (all below -1).
    private int parse(State[] into) {
        List<String> tokens = new ArrayList<>();
        List<Integer> places = new ArrayList<>();
        Matcher m = TOKEN.matcher(text);
        while (m.find()) {
            tokens.add(m.group());
            places.add(m.start());
        }
        places.add(text.length());
        State s = told.copy();
        int at = 0;
        int clauses = 0;
        while (true) {
            String word = at < tokens.size() ? tokens.get(at) : "";
            int[] bounds = bounds(word, s.h);
            if (bounds == null) {
                return places.get(at);
            }
            at++;
            int[] args = new int[2];
            for (int n = 0; n < bounds.length / 2; n++, at++) {
                if (at >= tokens.size() || !tokens.get(at).matches("[0-9]{1,2}")) {
                    return places.get(at);
                }
                args[n] = Integer.parseInt(tokens.get(at));
                if (args[n] < bounds[2 * n] || args[n] > bounds[2 * n + 1]) {
                    return places.get(at);
                }
            }
            s = done(s, word, args);
            clauses++;
            if (at == tokens.size()) {
                into[0] = s;
                return -1 - clauses;
            }
            if (clauses == 24 || !tokens.get(at).equals(";")) {
                return places.get(at);
            }
            at++;
        }
    }

    private static int[] bounds(String word, int h) {
        if (KINDS.contains(word)) {
            return new int[] {0, 2 * h - 1};
        }
        return switch (word) {
            case "board" -> new int[] {2, 5};
            case "seeds" -> new int[] {0, 2 * h - 1, 0, 30};
            case "barn" -> new int[] {0, 1, 0, 99};
            case "turn" -> new int[] {0, 1};
            default -> null;
        };
    }

    private static State done(State s, String word, int[] args) {
        switch (word) {
            case "board" -> {
                return State.first(args[0]);
            }
            case "seeds" -> s.seeds[args[0]] = args[1];
            case "barn" -> s.barn[args[0]] = args[1];
            case "turn" -> s.turn = args[0];
            default -> s.kind[args[0]] = KINDS.indexOf(word);
        }
        return s;
    }

    int fault() {
        return Math.max(NONE, parse(new State[1]));
    }

    int board() {
        State[] into = new State[1];
        int n = parse(into);
        if (n >= 0) {
            return NOT;
        }
        told = into[0];
        now = told.copy();
        text = "";
        past.clear();
        kept.clear();
        seen.clear();
        crates.clear();
        return -1 - n;
    }

    int house(int k, int what) {
        if (!isHouse(k)) {
            return UNKNOWN;
        }
        int kind = now.kind[k];
        int g = now.seeds[k];
        return switch (what) {
            case 0 -> kind;
            case 1 -> g;
            case 2 -> lifted(kind, g);
            case 3 -> takes(kind, g) ? 1 : 0;
            case 4 -> yields(kind, g) ? 1 : 0;
            default -> OUTSIDE;
        };
    }

    int as(int k, int kind) {
        if (!isHouse(k)) {
            return UNKNOWN;
        }
        if (kind < 0 || kind > 5) {
            return OUTSIDE;
        }
        List<Integer> over = switch (now.kind[k]) {
            case 0 -> List.of(0, 1);
            case 1 -> List.of(0, 1, 2);
            case 2 -> List.of(0, 1, 3);
            case 3 -> List.of(0, 4);
            default -> List.of(0, 4, 5);
        };
        return over.contains(kind) ? lifted(now.kind[k], 7) : NOT;
    }

    private void push() {
        past.addLast(now.copy());
        if (past.size() > 8) {
            past.removeFirst();
        }
    }

    int move(int k) {
        if (!isHouse(k)) {
            return UNKNOWN;
        }
        if (!now.going().contains(k)) {
            return NOT;
        }
        push();
        State s = now.after(k);
        int brought = s.barn[now.turn] - now.barn[now.turn];
        now = s;
        return brought;
    }

    int drop(int k, int n) {
        if (!isHouse(k)) {
            return UNKNOWN;
        }
        if (n < 1 || n > 30) {
            return OUTSIDE;
        }
        if (now.seeds[k] == 99) {
            return NOT;
        }
        push();
        now.seeds[k] = Math.min(99, now.seeds[k] + n);
        return now.seeds[k];
    }

    int swap(int k, int other) {
        if (!isHouse(k) || !isHouse(other) || k == other) {
            return UNKNOWN;
        }
        if (now.kind[k] == now.kind[other]) {
            return NOT;
        }
        push();
        int kind = now.kind[k];
        now.kind[k] = now.kind[other];
        now.kind[other] = kind;
        return now.kind[k];
    }

    int undo() {
        if (past.isEmpty()) {
            return NOT;
        }
        now = past.removeLast();
        return past.size();
    }

    int keep(int k) {
        if (k != 0 && k != 1) {
            return UNKNOWN;
        }
        kept.put(k, now.copy());
        return now.moves;
    }

    int back(int k) {
        if (k != 0 && k != 1) {
            return UNKNOWN;
        }
        if (!kept.containsKey(k)) {
            return NOT;
        }
        now = kept.get(k).copy();
        past.clear();
        return now.moves;
    }

    int brings(int k) {
        if (!isHouse(k)) {
            return UNKNOWN;
        }
        return now.going().contains(k) ? now.after(k).barn[now.turn] - now.barn[now.turn] : NOT;
    }

    private static Best bestOf(State s, int d) {
        if (d == 0 || s.going().isEmpty()) {
            return new Best(s.lead(s.turn), List.of());
        }
        Best best = null;
        for (int k : s.going()) {
            Best next = bestOf(s.after(k), d - 1);
            if (best == null || -next.lead > best.lead) {
                List<Integer> line = new ArrayList<>(List.of(k));
                line.addAll(next.line);
                best = new Best(-next.lead, line);
            }
        }
        return best;
    }

    int best(int d, int k) {
        if (d < 1 || d > 5 || k < -1 || k > 4) {
            return OUTSIDE;
        }
        Best best = bestOf(now, d);
        if (k == -1) {
            return best.lead + 5000;
        }
        return k < best.line.size() ? best.line.get(k) : NONE;
    }

    private static State rashNext(State s) {
        State found = null;
        for (int k : s.going()) {
            State next = s.after(k);
            if (found == null || next.barn[s.turn] > found.barn[s.turn]) {
                found = next;
            }
        }
        return found;
    }

    int rash(int n) {
        if (n < 0 || n > 40) {
            return OUTSIDE;
        }
        State s = now;
        for (int i = 0; i < n && !s.going().isEmpty(); i++) {
            s = rashNext(s);
        }
        return s.lead(0) + 5000;
    }

    int over() {
        State s = now;
        for (int i = 0; i <= 60; i++) {
            if (s.going().isEmpty()) {
                return i;
            }
            s = rashNext(s);
        }
        return NONE;
    }

    int gift(int d) {
        if (d < 1 || d > 4) {
            return OUTSIDE;
        }
        int without = bestOf(now, d).lead;
        int most = without;
        int found = NONE;
        for (int k = now.turn * now.h; k < now.turn * now.h + now.h; k++) {
            State s = now.copy();
            s.seeds[k] = Math.min(99, s.seeds[k] + 1);
            int lead = bestOf(s, d).lead;
            if (lead > most) {
                most = lead;
                found = k;
            }
        }
        return found;
    }

    private static BigInteger[] odds(State s, int n, int side) {
        List<Integer> going = s.going();
        if (n == 0 || going.isEmpty()) {
            return new BigInteger[] {s.lead(side) > 0 ? BigInteger.ONE : BigInteger.ZERO, BigInteger.ONE};
        }
        BigInteger[] sum = {BigInteger.ZERO, BigInteger.ONE};
        for (int k : going) {
            BigInteger[] part = odds(s.after(k), n - 1, side);
            sum[0] = sum[0].multiply(part[1]).add(part[0].multiply(sum[1]));
            sum[1] = sum[1].multiply(part[1]);
        }
        sum[1] = sum[1].multiply(BigInteger.valueOf(going.size()));
        BigInteger common = sum[0].gcd(sum[1]);
        return new BigInteger[] {sum[0].divide(common), sum[1].divide(common)};
    }

    int luck(int n, int part) {
        if (n < 1 || n > 3 || part < 0 || part > 1) {
            return OUTSIDE;
        }
        return odds(now, n, now.turn)[part].intValueExact();
    }

    int seen(int g, int l, int takes, int yields) {
        if (g < 0 || g > 20 || l < 0 || l > 20 || takes < 0 || takes > 1 || yields < 0 || yields > 1) {
            return OUTSIDE;
        }
        if (seen.size() == 6) {
            return FULL;
        }
        seen.add(new int[] {g, l, takes, yields});
        return seen.size();
    }

    int forget() {
        int n = seen.size();
        seen.clear();
        return n;
    }

    private static int[] answer(int kind, int g) {
        return new int[] {g, lifted(kind, g), takes(kind, g) ? 1 : 0, yields(kind, g) ? 1 : 0};
    }

    int kinds() {
        int bits = 0;
        for (int kind = 0; kind < 5; kind++) {
            int of = kind;
            if (seen.stream().allMatch(s -> Arrays.equals(s, answer(of, s[0])))) {
                bits += 1 << kind;
            }
        }
        return bits;
    }

    int ask() {
        int bits = kinds();
        int least = Integer.bitCount(bits);
        int found = NONE;
        for (int g = 0; g <= 12; g++) {
            Map<String, Integer> parts = new HashMap<>();
            for (int kind = 0; kind < 5; kind++) {
                if ((bits & 1 << kind) != 0) {
                    parts.merge(Arrays.toString(answer(kind, g)), 1, Integer::sum);
                }
            }
            int greatest = parts.values().stream().mapToInt(n -> n).max().orElse(0);
            if (greatest < least) {
                least = greatest;
                found = g;
            }
        }
        return found;
    }

    private boolean lies(int b) {
        return crates.values().stream().anyMatch(c -> c.things.contains(new Thing(2, b)));
    }

    private boolean holds(int outer, int inner) {
        if (outer == inner) {
            return true;
        }
        for (Thing t : crates.get(outer).things) {
            if (t.what == 2 && holds(t.v, inner)) {
                return true;
            }
        }
        return false;
    }

    private void away(int b) {
        crates.remove(b);
        crates.values().forEach(c -> c.things.remove(new Thing(2, b)));
    }

    int box(int b, int n) {
        if (!isBox(b)) {
            return UNKNOWN;
        }
        if (n > 4) {
            return OUTSIDE;
        }
        if (n < 0) {
            return SIZE;
        }
        away(b);
        Crate c = new Crate();
        c.room = n;
        crates.put(b, c);
        return n;
    }

    int put(int b, int what, int v) {
        if (!isBox(b) || what == 1 && !isHouse(v) || what == 2 && !isBox(v)) {
            return UNKNOWN;
        }
        if (what < 0 || what > 2 || what == 0 && (v < -9999 || v > 9999)) {
            return OUTSIDE;
        }
        if (what == 2 && lies(v)) {
            return NOT;
        }
        if (!crates.containsKey(b) || what == 2 && !crates.containsKey(v)) {
            return NULL;
        }
        Crate c = crates.get(b);
        if (c.things.size() == c.room) {
            return ROOM;
        }
        if (what == 2 && holds(v, b)) {
            return LOOP;
        }
        c.things.add(new Thing(what, v));
        return c.things.size();
    }

    int take(int b, int what) {
        if (!isBox(b)) {
            return UNKNOWN;
        }
        if (what < 0 || what > 2) {
            return OUTSIDE;
        }
        if (!crates.containsKey(b)) {
            return NULL;
        }
        List<Thing> things = crates.get(b).things;
        if (things.isEmpty()) {
            return EMPTY;
        }
        Thing top = things.get(things.size() - 1);
        if (top.what != what) {
            return CAST;
        }
        things.remove(things.size() - 1);
        return what == 0 ? top.v + 50000 : top.v;
    }

    int spill(int b) {
        if (!isBox(b)) {
            return UNKNOWN;
        }
        if (!crates.containsKey(b)) {
            return NULL;
        }
        List<Thing> things = crates.get(b).things;
        if (things.isEmpty()) {
            return EMPTY;
        }
        Thing top = things.get(things.size() - 1);
        if (top.what != 2) {
            return CAST;
        }
        List<Thing> inner = crates.get(top.v).things;
        if (things.size() - 1 + inner.size() > crates.get(b).room) {
            return ROOM;
        }
        things.remove(things.size() - 1);
        things.addAll(inner);
        inner.clear();
        return things.size();
    }

    // Numbers, their sum, HOUSES, BOXES, depth.
    private int[] through(int b) {
        int[] all = new int[5];
        for (Thing t : crates.get(b).things) {
            if (t.what == 0) {
                all[0]++;
                all[1] += t.v;
            } else if (t.what == 1) {
                all[2] |= 1 << t.v;
            } else {
                int[] in = through(t.v);
                all[0] += in[0];
                all[1] += in[1];
                all[2] |= in[2];
                all[3] |= in[3] | 1 << t.v;
                all[4] = Math.max(all[4], 1 + in[4]);
            }
        }
        return all;
    }

    int deep(int b, int what) {
        if (!isBox(b)) {
            return UNKNOWN;
        }
        if (what < 0 || what > 4) {
            return OUTSIDE;
        }
        if (!crates.containsKey(b)) {
            return NULL;
        }
        return through(b)[what] + (what == 1 ? 50000 : 0);
    }

    private String shown(int b) {
        StringBuilder all = new StringBuilder("(");
        for (Thing t : crates.get(b).things) {
            all.append(t.what == 2 ? shown(t.v) : t.what + ":" + t.v).append(' ');
        }
        return all.append(')').toString();
    }

    int alike(int b, int other) {
        if (!isBox(b) || !isBox(other)) {
            return UNKNOWN;
        }
        if (!crates.containsKey(b) || !crates.containsKey(other)) {
            return NULL;
        }
        return shown(b).equals(shown(other)) ? 1 : 0;
    }

    int lose(int b) {
        if (!isBox(b)) {
            return UNKNOWN;
        }
        if (!crates.containsKey(b)) {
            return NULL;
        }
        int n = crates.get(b).things.size();
        away(b);
        return n;
    }

    int count(int what) {
        return switch (what) {
            case 0 -> 2 * now.h;
            case 1 -> now.moves;
            case 2 -> now.turn;
            case 3 -> now.barn[0];
            case 4 -> now.barn[1];
            case 5 -> Arrays.stream(now.seeds).sum();
            case 6 -> now.going().stream().mapToInt(k -> 1 << k).sum();
            case 7 -> seen.size();
            case 8 -> crates.keySet().stream().mapToInt(b -> 1 << b).sum();
            case 9 -> past.size();
            case 10 -> text.length();
            default -> OUTSIDE;
        };
    }
}
