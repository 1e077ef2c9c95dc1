import java.util.ArrayList;
import java.util.List;
import java.util.Random;

/** Runs of calls drawn by lot (always the same ones), each answer held against the model's. */
public final class ModelTest {
    private static final int RUNS = 4000;
    private static final int CALLS = 512;
    private static final int[] WILD = {-1, -2, -16, 5, 6, 10, 31, 41, 99, 255, 256, Integer.MIN_VALUE, Integer.MAX_VALUE};
    private static final String[] KINDS = {"plain", "deep", "rich", "barred", "mean"};

    private final Random lot;
    private final SownSeeds x = new SownSeeds();
    private final Model m = new Model();
    private final List<String> calls = new ArrayList<>();
    private boolean isWrong = false;

    private ModelTest(long run) {
        lot = new Random(run);
    }

    public static void main(String[] args) {
        int wrong = 0;
        long made = 0;
        for (int run = 0; run < RUNS && wrong < 5; run++) {
            ModelTest test = new ModelTest(run);
            wrong += test.go(run % 4) ? 0 : 1;
            made += test.calls.size();
        }
        System.out.println(made + " calls drawn by lot, " + wrong + " runs with a wrong answer");
        if (wrong != 0) {
            System.exit(1);
        }
    }

    // Of one stress each: all calls alike, the board, the boxes, the texts.
    private boolean go(int stress) {
        while (calls.size() < CALLS && !isWrong) {
            int draw = lot.nextInt(100);
            if (stress == 3 ? draw < 50 : calls.isEmpty() || draw < 1) {
                tell();
            } else if (stress == 2 ? draw < 95 : draw < 10) {
                box();
            } else if (draw < 20) {
                see();
            } else if (draw < 65) {
                play();
            } else {
                foretell();
            }
            if (draw % 3 == 0) {
                look();
            }
        }
        return !isWrong;
    }

    private void due(String call, int got, int want) {
        calls.add(call + " = " + got);
        if (got != want && !isWrong) {
            isWrong = true;
            System.out.println("of the calls " + calls + " the last should answer " + want);
        }
    }

    private int number(int least, int most) {
        return lot.nextInt(25) == 0 ? WILD[lot.nextInt(WILD.length)] : least + lot.nextInt(most - least + 1);
    }

    private int aHouse() {
        return number(0, m.count(0) - 1);
    }

    private int goingHouse() {
        int house = aHouse();
        for (int n = 0; n < 20 && (m.count(6) >> house & 1) == 0; n++) {
            house = aHouse();
        }
        return house;
    }

    private void write(String text) {
        for (int n = 0; n < text.length() && !isWrong; n++) {
            int letter = text.charAt(n);
            due("write(" + letter + ")", x.write(letter), m.write(letter));
        }
    }

    private String clause() {
        int most = m.count(0) - 1 + lot.nextInt(30) / 29;
        String blank = lot.nextInt(8) == 0 ? "  " : " ";
        return switch (lot.nextInt(12)) {
            case 0 -> "board" + blank + (2 + lot.nextInt(4));
            case 1, 2, 3 -> "seeds " + lot.nextInt(most + 1) + blank + lot.nextInt(32);
            case 4 -> "barn" + blank + lot.nextInt(2) + " " + lot.nextInt(100);
            case 5 -> "turn " + lot.nextInt(2);
            default -> KINDS[lot.nextInt(KINDS.length)] + blank + lot.nextInt(most + 1);
        };
    }

    private void tell() {
        StringBuilder text = new StringBuilder(lot.nextBoolean() ? "board " + (2 + lot.nextInt(4)) : clause());
        int more = lot.nextInt(40) == 0 ? 30 : lot.nextInt(10);
        for (int n = 0; n < more; n++) {
            text.append(lot.nextInt(6) == 0 ? " ; " : ";").append(more == 30 ? "turn 0" : clause());
        }
        if (lot.nextInt(3) == 0) {
            int at = lot.nextInt(text.length());
            String signs = " ;09aztxA\t" + (char) 0 + (char) 255;
            char sign = signs.charAt(lot.nextInt(signs.length()));
            switch (lot.nextInt(4)) {
                case 0 -> text.setCharAt(at, sign);
                case 1 -> text.insert(at, sign);
                case 2 -> text.deleteCharAt(at);
                default -> text.setLength(at);
            }
        }
        write(text.toString());
        due("fault()", x.fault(), m.fault());
        due("board()", x.board(), m.board());
        if (lot.nextInt(4) != 0) {
            due("erase()", x.erase(), m.erase());
        }
        int wild = lot.nextBoolean() ? 256 : -1;
        due("write(" + wild + ")", x.write(wild), m.write(wild));
    }

    private void look() {
        int what = number(0, 10);
        due("count(" + what + ")", x.count(what), m.count(what));
        int house = aHouse();
        int of = number(0, 4);
        due("house(" + house + ", " + of + ")", x.house(house, of), m.house(house, of));
    }

    private void play() {
        int house = lot.nextInt(10) == 0 ? aHouse() : goingHouse();
        int other = aHouse();
        int n = number(1, 30);
        int k = number(0, 1);
        switch (lot.nextInt(16)) {
            case 0 -> due("drop(" + house + ", " + n + ")", x.drop(house, n), m.drop(house, n));
            case 1 -> due("swap(" + house + ", " + other + ")", x.swap(house, other), m.swap(house, other));
            case 2, 3 -> due("undo()", x.undo(), m.undo());
            case 4 -> due("keep(" + k + ")", x.keep(k), m.keep(k));
            case 5 -> due("back(" + k + ")", x.back(k), m.back(k));
            case 6 -> {
                int kind = number(0, 5);
                due("as(" + house + ", " + kind + ")", x.as(house, kind), m.as(house, kind));
            }
            default -> due("move(" + house + ")", x.move(house), m.move(house));
        }
    }

    private void foretell() {
        int house = lot.nextInt(10) == 0 ? aHouse() : goingHouse();
        int d = number(1, lot.nextInt(8) == 0 ? 5 : 3);
        switch (lot.nextInt(6)) {
            case 0 -> due("brings(" + house + ")", x.brings(house), m.brings(house));
            case 1 -> {
                int k = number(-1, 4);
                due("best(" + d + ", " + k + ")", x.best(d, k), m.best(d, k));
            }
            case 2 -> {
                int n = number(0, 40);
                due("rash(" + n + ")", x.rash(n), m.rash(n));
            }
            case 3 -> due("over()", x.over(), m.over());
            case 4 -> due("gift(" + d + ")", x.gift(d), m.gift(d));
            default -> {
                int part = number(0, 1);
                due("luck(" + d + ", " + part + ")", x.luck(d, part), m.luck(d, part));
            }
        }
    }

    private void see() {
        switch (lot.nextInt(8)) {
            case 0 -> due("forget()", x.forget(), m.forget());
            case 1, 2 -> due("kinds()", x.kinds(), m.kinds());
            case 3, 4 -> due("ask()", x.ask(), m.ask());
            default -> {
                int kind = lot.nextInt(5);
                int g = number(0, lot.nextBoolean() ? 6 : 20);
                int l = lot.nextInt(6) == 0 ? number(0, 20) : Model.lifted(kind, g);
                int takes = lot.nextInt(6) == 0 ? number(0, 1) : Model.takes(kind, g) ? 1 : 0;
                int yields = lot.nextInt(6) == 0 ? number(0, 1) : Model.yields(kind, g) ? 1 : 0;
                String call = "seen(" + g + ", " + l + ", " + takes + ", " + yields + ")";
                due(call, x.seen(g, l, takes, yields), m.seen(g, l, takes, yields));
            }
        }
    }

    private void box() {
        int b = number(0, 4);
        int other = number(0, 4);
        switch (m.count(8) < 15 && lot.nextInt(3) == 0 ? 0 : lot.nextInt(20)) {
            case 0 -> {
                int n = number(lot.nextInt(8) == 0 ? 0 : 2, 4);
                due("box(" + b + ", " + n + ")", x.box(b, n), m.box(b, n));
            }
            case 1, 2, 3 -> {
                int what = number(0, 2);
                due("take(" + b + ", " + what + ")", x.take(b, what), m.take(b, what));
            }
            case 4 -> due("spill(" + b + ")", x.spill(b), m.spill(b));
            case 5, 6, 7 -> {
                int what = number(0, 4);
                due("deep(" + b + ", " + what + ")", x.deep(b, what), m.deep(b, what));
            }
            case 8, 9, 10 -> due("alike(" + b + ", " + other + ")", x.alike(b, other), m.alike(b, other));
            case 11 -> due("lose(" + b + ")", x.lose(b), m.lose(b));
            case 12, 13 -> {
                int v = lot.nextInt(9) == 0 ? number(-10001, 10001) : number(1, 2);
                due("put(" + b + ", 0, " + v + ")", x.put(b, 0, v), m.put(b, 0, v));
            }
            case 14 -> {
                int v = aHouse();
                due("put(" + b + ", 1, " + v + ")", x.put(b, 1, v), m.put(b, 1, v));
            }
            case 15 -> {
                int what = number(0, 3);
                due("put(" + b + ", " + what + ", " + other + ")", x.put(b, what, other), m.put(b, what, other));
            }
            default -> due("put(" + b + ", 2, " + other + ")", x.put(b, 2, other), m.put(b, 2, other));
        }
    }
}
