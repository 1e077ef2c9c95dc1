import java.util.Arrays;

/** The promises 1 to 31, one after another: ordinary calls, the edges that the document names, wrong inputs. */
public final class PromisesTest {
    private static final int NONE = -1, UNKNOWN = -2, OUTSIDE = -3, NOT = -4, FULL = -5;
    private static final int NULL = -11, EMPTY = -12, CAST = -13, ROOM = -14, LOOP = -15, SIZE = -16;
    private static final int LEAST = Integer.MIN_VALUE, MOST = Integer.MAX_VALUE;

    // Boards on which promises of what is FORETOLD are held against MOVES that are done and undone.
    private static final String[] TEXTS = {
        "board 3",
        "board 2;seeds 0 9;seeds 1 8;seeds 3 7",
        "seeds 0 1;seeds 1 2;seeds 2 3;seeds 3 1;seeds 4 2;seeds 5 3",
        "seeds 0 2;deep 1;seeds 2 1;rich 3;seeds 4 1;mean 5;turn 1",
        "seeds 0 1;seeds 1 1;seeds 2 1;seeds 3 2;seeds 4 1;seeds 5 1;turn 1",
        "seeds 0 1;seeds 1 0;seeds 2 2;seeds 3 1;seeds 4 2;seeds 5 0",
        "board 4;mean 0;barred 1;seeds 2 7;barred 4;mean 5;rich 6",
        "board 4;seeds 0 5;mean 1;deep 2;deep 3;mean 6;seeds 4 1;seeds 5 1",
        "board 5;rich 2;rich 4;mean 6;seeds 6 7;seeds 7 6;barred 8;barn 1 9",
        "board 5;seeds 0 1;seeds 1 0;seeds 2 1;seeds 3 3;seeds 4 2;seeds 5 1;seeds 6 2;seeds 7 1;seeds 8 0;seeds 9 2",
    };

    private final Checks c = new Checks();

    public static void main(String[] args) {
        PromisesTest t = new PromisesTest();
        t.constants();
        t.newObject();
        t.write();
        t.erase();
        t.fault();
        t.faultBounds();
        t.faultOrder();
        t.board();
        t.boardGoesOnFromWhatWasTold();
        t.boardForgets();
        t.house();
        t.as();
        t.move();
        t.moveByKind();
        t.moveReaps();
        t.moveTooOften();
        t.drop();
        t.swap();
        t.undo();
        t.keepAndBack();
        t.brings();
        t.best();
        t.bestStepByStep();
        t.rashAndOver();
        t.rashStepByStep();
        t.gift();
        t.giftStepByStep();
        t.luck();
        t.seenAndForget();
        t.kinds();
        t.ask();
        t.box();
        t.put();
        t.take();
        t.spill();
        t.deep();
        t.alike();
        t.lose();
        t.count();
        t.foretellingChangesNothing();
        t.c.end();
    }

    private void constants() {
        c.part("constants");
        c.due("NONE", SownSeeds.NONE, NONE);
        c.due("UNKNOWN", SownSeeds.UNKNOWN, UNKNOWN);
        c.due("OUTSIDE", SownSeeds.OUTSIDE, OUTSIDE);
        c.due("NOT", SownSeeds.NOT, NOT);
        c.due("FULL", SownSeeds.FULL, FULL);
        c.due("NULL", SownSeeds.NULL, NULL);
        c.due("EMPTY", SownSeeds.EMPTY, EMPTY);
        c.due("CAST", SownSeeds.CAST, CAST);
        c.due("ROOM", SownSeeds.ROOM, ROOM);
        c.due("LOOP", SownSeeds.LOOP, LOOP);
        c.due("SIZE", SownSeeds.SIZE, SIZE);
    }

    private void newObject() {
        c.part("promise 1");
        SownSeeds x = new SownSeeds();
        c.seeds(x, 4, 4, 4, 4, 4, 4);
        c.kinds(x, 0, 0, 0, 0, 0, 0);
        for (int what = 1; what <= 10; what++) {
            int want = what == 5 ? 24 : what == 6 ? 0b000111 : 0;
            c.due("count(" + what + ")", x.count(what), want);
        }
        SownSeeds y = new SownSeeds();
        x.move(0);
        c.seeds(y, 4, 4, 4, 4, 4, 4);
    }

    private void write() {
        c.part("promise 2");
        SownSeeds x = new SownSeeds();
        c.due("write(0)", x.write(0), 1);
        c.due("write(255)", x.write(255), 2);
        c.due("write(-1)", x.write(-1), OUTSIDE);
        c.due("write(256)", x.write(256), OUTSIDE);
        c.due("write(least)", x.write(LEAST), OUTSIDE);
        c.due("write(most)", x.write(MOST), OUTSIDE);
        for (int n = 3; n <= 200; n++) {
            c.due("write(32)", x.write(32), n);
        }
        c.due("write(32), the 201st", x.write(32), FULL);
        c.due("write(256), the 201st", x.write(256), OUTSIDE);
        c.due("count(10)", x.count(10), 200);
    }

    private void erase() {
        c.part("promise 3");
        SownSeeds x = new SownSeeds();
        c.due("erase()", x.erase(), 0);
        Checks.write(x, "turn 1");
        c.due("erase()", x.erase(), 6);
        c.due("erase()", x.erase(), 0);
        c.due("fault()", x.fault(), 0);
        c.due("write(97)", x.write('a'), 1);
    }

    private void faultOf(String text, int want) {
        SownSeeds x = new SownSeeds();
        Checks.write(x, text);
        c.due("fault() of \"" + text + "\"", x.fault(), want);
        c.due("fault() of \"" + text + "\" again", x.fault(), want);
        c.due("count(10)", x.count(10), text.length());
    }

    private void fault() {
        c.part("promise 4");
        faultOf("", 0);
        faultOf("   ", 3);
        faultOf("board 3", NONE);
        faultOf("plain 0;deep 1;rich 2;barred 3;mean 4", NONE);
        faultOf("seeds 0 7;barn 1 7;turn 1", NONE);
        faultOf("  turn   1  ;  turn 0  ", NONE);
        faultOf("turn1", NONE);
        faultOf("seeds0 1;barn1 2", NONE);
        faultOf("turn 01", NONE);
        faultOf("turn 001", 5);
        faultOf("turn", 4);
        faultOf("turn  ", 6);
        faultOf("turns 1", 0);
        faultOf("tur 1", 0);
        faultOf("turn x", 5);
        faultOf("turn ;", 5);
        faultOf("turn 1;", 7);
        faultOf("turn 1; ", 8);
        faultOf(";turn 1", 0);
        faultOf("turn 1;;turn 1", 7);
        faultOf("turn 1 turn 1", 7);
        faultOf("turn 1 1", 7);
        faultOf("turn 1,", 6);
        faultOf("turn -1", 5);
        faultOf("turn\t1", 4);
        faultOf("Turn 1", 0);
        faultOf("tuRn 1", 0);
        faultOf("1", 0);
        faultOf("seeds", 5);
        faultOf("seeds 1", 7);
        faultOf("seeds 1;", 7);
        faultOf("seeds 1 2 3", 10);
        faultOf("barn 1", 6);
        faultOf("house 1", 0);
        faultOf("plain", 5);
        faultOf("turn " + (char) 233, 5);
        faultOf("turn " + (char) 0, 5);
    }

    private void faultBounds() {
        c.part("promise 4, bounds");
        faultOf("board 1", 6);
        faultOf("board 2", NONE);
        faultOf("board 5", NONE);
        faultOf("board 6", 6);
        faultOf("plain 5", NONE);
        faultOf("plain 6", 6);
        faultOf("seeds 5 30", NONE);
        faultOf("seeds 5 31", 8);
        faultOf("seeds 6 31", 6);
        faultOf("seeds 0 0", NONE);
        faultOf("seeds 0 030", 8);
        faultOf("barn 0 0", NONE);
        faultOf("barn 1 99", NONE);
        faultOf("barn 1 100", 7);
        faultOf("barn 2 1", 5);
        faultOf("turn 2", 5);
        faultOf("turn 99999999999999999999", 5);
        String[] kinds = {"plain", "deep", "rich", "barred", "mean"};
        for (String kind : kinds) {
            faultOf(kind + " 6", kind.length() + 1);
            faultOf("board 2;" + kind + " 4", kind.length() + 9);
            faultOf("board 2;" + kind + " 3", NONE);
            faultOf("board 5;" + kind + " 9", NONE);
            faultOf("board 5;" + kind + " 10", kind.length() + 9);
        }
    }

    private void faultOrder() {
        c.part("promise 4, the board so far");
        faultOf("board 5;deep 9;board 3;deep 9", 28);
        faultOf("deep 9;board 5", 5);
        StringBuilder many = new StringBuilder("turn 0");
        for (int n = 2; n <= 24; n++) {
            many.append(";turn 0");
        }
        faultOf(many.toString(), NONE);
        faultOf(many + "  ", NONE);
        faultOf(many + ";", many.length());
        faultOf(many + ";turn 0", many.length());
        faultOf(many + "  ;turn 0", many.length() + 2);
        SownSeeds fresh = new SownSeeds();
        Checks.write(fresh, "board 5;deep 9;");
        c.due("fault()", fresh.fault(), 15);
        fresh.erase();
        Checks.write(fresh, "deep 9");
        c.due("fault(), no board 5 was done", fresh.fault(), 5);
        SownSeeds x = c.told("board 5");
        Checks.write(x, "deep 9");
        c.due("fault() behind board 5", x.fault(), NONE);
        x.erase();
        Checks.write(x, "deep 10");
        c.due("fault() behind board 5", x.fault(), 5);
    }

    private void board() {
        c.part("promise 5");
        SownSeeds x = new SownSeeds();
        c.due("board()", x.board(), NOT);
        Checks.write(x, "deep 1;seeds 2 9;seeds 2 31");
        c.due("board()", x.board(), NOT);
        c.due("count(10)", x.count(10), 27);
        c.kinds(x, 0, 0, 0, 0, 0, 0);
        c.seeds(x, 4, 4, 4, 4, 4, 4);
        x.erase();
        c.tell(x, "plain 0;deep 1;rich 2;barred 3;mean 4;seeds 5 30;seeds 0 0;barn 0 5;barn 1 99;turn 1");
        c.due("count(10)", x.count(10), 0);
        c.kinds(x, 0, 1, 2, 3, 4, 0);
        c.seeds(x, 0, 4, 4, 4, 4, 30);
        c.due("count(3)", x.count(3), 5);
        c.due("count(4)", x.count(4), 99);
        c.due("count(2)", x.count(2), 1);
        c.due("board() of none", x.board(), NOT);
        c.tell(x, "deep 0;seeds 1 7;barn 0 8;turn 1;board 2;rich 0;mean 0");
        c.kinds(x, 4, 0, 0, 0);
        c.seeds(x, 4, 4, 4, 4);
        c.due("count(2)", x.count(2), 0);
        c.due("count(3)", x.count(3), 0);
        c.due("count(4)", x.count(4), 0);
    }

    private void boardGoesOnFromWhatWasTold() {
        c.part("promise 5, told earlier");
        SownSeeds x = c.told("board 4;deep 7;seeds 1 9;barn 1 3");
        x.move(1);
        x.drop(6, 5);
        x.swap(7, 0);
        c.tell(x, "rich 2");
        c.kinds(x, 0, 0, 2, 0, 0, 0, 0, 1);
        c.seeds(x, 4, 9, 4, 4, 4, 4, 4, 4);
        c.due("count(4)", x.count(4), 3);
        c.due("count(2)", x.count(2), 0);
        c.tell(x, "turn 1");
        c.kinds(x, 0, 0, 2, 0, 0, 0, 0, 1);
        c.due("count(2)", x.count(2), 1);
        SownSeeds y = new SownSeeds();
        y.move(0);
        c.tell(y, "barn 0 1");
        c.seeds(y, 4, 4, 4, 4, 4, 4);
        c.due("count(2)", y.count(2), 0);
        Checks.write(y, "seeds 0 9;seeds 0 x");
        c.due("board()", y.board(), NOT);
        y.erase();
        c.tell(y, "turn 0");
        c.seeds(y, 4, 4, 4, 4, 4, 4);
    }

    private void boardForgets() {
        c.part("promise 5, behind it");
        SownSeeds x = new SownSeeds();
        x.move(0);
        x.keep(0);
        x.keep(1);
        x.seen(1, 1, 1, 0);
        x.box(0, 4);
        x.box(1, 4);
        x.put(0, 2, 1);
        Checks.write(x, "turn");
        c.due("board()", x.board(), NOT);
        c.due("count(1)", x.count(1), 1);
        c.due("count(7)", x.count(7), 1);
        c.due("count(8)", x.count(8), 3);
        c.due("count(9)", x.count(9), 1);
        x.erase();
        c.tell(x, "turn 0");
        c.due("count(1)", x.count(1), 0);
        c.due("count(7)", x.count(7), 0);
        c.due("count(8)", x.count(8), 0);
        c.due("count(9)", x.count(9), 0);
        c.due("undo()", x.undo(), NOT);
        c.due("back(0)", x.back(0), NOT);
        c.due("back(1)", x.back(1), NOT);
        c.due("kinds()", x.kinds(), 31);
        c.due("deep(0, 0)", x.deep(0, 0), NULL);
        x.box(1, 1);
        x.box(0, 1);
        c.due("put(0, 2, 1)", x.put(0, 2, 1), 1);
    }

    private void houseIs(SownSeeds x, int house, int lifted, int takes, int yields) {
        c.due("house(" + house + ", 2)", x.house(house, 2), lifted);
        c.due("house(" + house + ", 3)", x.house(house, 3), takes);
        c.due("house(" + house + ", 4)", x.house(house, 4), yields);
    }

    // By what of a KIND: LIFTED, TAKES, YIELDS of so many SEEDS in all ten HOUSES.
    private void houseOfKind(String kind, int[] seeds, int[] lifted, int[] takes, int[] yields) {
        c.part("promise 6, " + kind);
        StringBuilder text = new StringBuilder("board 5");
        for (int house = 0; house < 10; house++) {
            text.append(";seeds ").append(house).append(' ').append(seeds[house]);
        }
        SownSeeds x = c.told(text.toString());
        StringBuilder kinds = new StringBuilder(kind + " 0");
        for (int house = 1; house < 10; house++) {
            kinds.append(';').append(kind).append(' ').append(house);
        }
        c.tell(x, kinds.toString());
        for (int house = 0; house < 10; house++) {
            houseIs(x, house, lifted[house], takes[house], yields[house]);
        }
    }

    private void house() {
        int[] g = {0, 1, 2, 3, 4, 5, 6, 7, 8, 30};
        int[] ones = {1, 1, 1, 1, 1, 1, 1, 1, 1, 1};
        int[] zeros = new int[10];
        int[] twoThree = {0, 0, 1, 1, 0, 0, 0, 0, 0, 0};
        houseOfKind("plain", g, g, ones, twoThree);
        houseOfKind("deep", g, new int[] {0, 0, 1, 2, 3, 4, 5, 6, 7, 29}, ones, twoThree);
        houseOfKind("rich", g, g, ones, new int[] {0, 0, 1, 1, 1, 1, 0, 0, 0, 0});
        houseOfKind("barred", g, zeros, zeros, zeros);
        int[] halves = {0, 1, 1, 2, 2, 3, 3, 4, 4, 15};
        houseOfKind("mean", g, halves, new int[] {1, 1, 1, 0, 0, 0, 0, 0, 0, 0}, zeros);
        c.part("promise 6");
        SownSeeds x = c.told("board 2;deep 0;rich 1;barred 2;mean 3");
        c.kinds(x, 1, 2, 3, 4);
        for (int house = 0; house < 4; house++) {
            x.drop(house, 30);
            x.drop(house, 30);
            x.drop(house, 30);
            x.drop(house, 4);
        }
        c.seeds(x, 98, 98, 98, 98);
        houseIs(x, 0, 97, 1, 0);
        houseIs(x, 1, 98, 1, 0);
        x.drop(0, 1);
        x.drop(1, 1);
        houseIs(x, 0, 98, 0, 0);
        houseIs(x, 1, 99, 0, 0);
        c.due("house(4, 0)", x.house(4, 0), UNKNOWN);
        c.due("house(4, 9)", x.house(4, 9), UNKNOWN);
        c.due("house(-1, 0)", x.house(-1, 0), UNKNOWN);
        c.due("house(most, 0)", x.house(MOST, 0), UNKNOWN);
        c.due("house(least, 0)", x.house(LEAST, 0), UNKNOWN);
        c.due("house(0, 5)", x.house(0, 5), OUTSIDE);
        c.due("house(0, -1)", x.house(0, -1), OUTSIDE);
    }

    private void as() {
        c.part("promise 7");
        SownSeeds x = c.told("deep 1;rich 2;barred 3;mean 4;seeds 0 1;seeds 1 1");
        int[][] want = {
            {7, 7, NOT, NOT, NOT, NOT},
            {6, 6, 6, NOT, NOT, NOT},
            {7, 7, NOT, 7, NOT, NOT},
            {0, NOT, NOT, NOT, 0, NOT},
            {4, NOT, NOT, NOT, 4, 4},
        };
        for (int house = 0; house < 5; house++) {
            for (int kind = 0; kind < 6; kind++) {
                c.due("as(" + house + ", " + kind + ")", x.as(house, kind), want[house][kind]);
            }
        }
        c.due("as(6, 0)", x.as(6, 0), UNKNOWN);
        c.due("as(-1, 9)", x.as(-1, 9), UNKNOWN);
        c.due("as(0, 6)", x.as(0, 6), OUTSIDE);
        c.due("as(0, -1)", x.as(0, -1), OUTSIDE);
        c.due("as(0, most)", x.as(0, MOST), OUTSIDE);
    }

    private void move() {
        c.part("promise 8");
        SownSeeds x = new SownSeeds();
        c.due("move(6)", x.move(6), UNKNOWN);
        c.due("move(-1)", x.move(-1), UNKNOWN);
        c.due("move(3)", x.move(3), NOT);
        c.due("move(1)", x.move(1), 0);
        c.seeds(x, 4, 0, 5, 5, 5, 5);
        c.due("count(1)", x.count(1), 1);
        c.due("count(2)", x.count(2), 1);
        c.due("move(0)", x.move(0), NOT);
        c.due("move(5)", x.move(5), 0);
        c.seeds(x, 5, 1, 6, 6, 6, 0);
        c.due("move(2)", x.move(2), 0);
        // Six from HOUSE 2: 3, 4, 5, 0, 1, over 2 itself, 3.
        c.seeds(x, 6, 2, 0, 8, 7, 1);
        c.due("count(1)", x.count(1), 3);
        c.due("move(3)", x.move(3), 0);
        // Eight from HOUSE 3: 4, 5, 0, 1, 2, over 3 itself, 4, 5, 0.
        c.seeds(x, 8, 3, 1, 0, 9, 3);
        SownSeeds y = c.told("board 2;seeds 0 0;seeds 1 0;seeds 2 1");
        c.due("move(0), nothing in it", y.move(0), NOT);
        c.due("move(2), the other's", y.move(2), NOT);
        c.due("count(6)", y.count(6), 0);
    }

    private void moveByKind() {
        c.part("promise 8, by KIND");
        SownSeeds deep = c.told("deep 0;seeds 0 3;seeds 1 0");
        c.due("move(0)", deep.move(0), 0);
        c.seeds(deep, 1, 1, 5, 4, 4, 4);
        SownSeeds one = c.told("deep 0;seeds 0 1");
        c.due("move(0), one in a DEEP one", one.move(0), NOT);
        c.due("count(6)", one.count(6), 0b000110);
        SownSeeds barred = c.told("barred 0;barred 2;seeds 1 2");
        c.due("move(0), BARRED", barred.move(0), NOT);
        c.due("move(1)", barred.move(1), 0);
        c.seeds(barred, 4, 0, 4, 5, 5, 4);
        SownSeeds mean = c.told("mean 1;seeds 1 5;mean 2;seeds 2 2;mean 3;seeds 3 3");
        c.due("move(1)", mean.move(1), 0);
        c.seeds(mean, 4, 2, 3, 3, 5, 5);
        SownSeeds fills = c.told("board 2;mean 1;seeds 1 0;barred 2;barred 3;seeds 0 7");
        // A MEAN one takes while it has 2 or less; four of seven are left for the BARN.
        c.due("move(0)", fills.move(0), 4);
        c.seeds(fills, 0, 3, 4, 4);
        c.due("count(3)", fills.count(3), 4);
        c.due("count(2)", fills.count(2), 1);
        SownSeeds exact = c.told("board 2;mean 1;seeds 1 0;barred 2;barred 3;seeds 0 3");
        c.due("move(0)", exact.move(0), 0);
        c.seeds(exact, 0, 3, 4, 4);
        SownSeeds full = c.told("board 2;seeds 0 2;turn 0");
        for (int n = 0; n < 4; n++) {
            full.drop(1, 30);
        }
        // HOUSE 1 has 99 and is passed over.
        c.due("move(0)", full.move(0), 0);
        c.seeds(full, 0, 99, 5, 5);
        SownSeeds left = c.told("board 2;barred 1;barred 3;seeds 2 1;mean 2;seeds 0 3;turn 0");
        // Two fall into the MEAN one, one is left: nothing yields where SEEDS were left.
        c.due("move(0)", left.move(0), 1);
        c.seeds(left, 0, 4, 3, 4);
        // One alone takes all, round and round.
        SownSeeds rounds = c.told("board 2;barred 1;barred 2;seeds 3 0;seeds 0 9");
        c.due("move(0)", rounds.move(0), 0);
        c.seeds(rounds, 0, 4, 4, 9);
    }

    private void moveReaps() {
        c.part("promise 8, what it YIELDS");
        SownSeeds x = c.told("seeds 2 3;seeds 3 1;seeds 4 2;seeds 5 2");
        c.due("move(2)", x.move(2), 2 + 3 + 3);
        c.seeds(x, 4, 4, 0, 0, 0, 0);
        c.due("count(3)", x.count(3), 8);
        c.due("count(4)", x.count(4), 0);
        SownSeeds gap = c.told("seeds 2 3;seeds 3 1;seeds 4 4;seeds 5 2");
        c.due("move(2), 4 does not yield", gap.move(2), 3);
        c.seeds(gap, 4, 4, 0, 2, 5, 0);
        SownSeeds rich = c.told("seeds 2 3;seeds 3 1;rich 4;seeds 4 4;seeds 5 2");
        c.due("move(2), RICH 4 yields", rich.move(2), 2 + 5 + 3);
        SownSeeds many = c.told("seeds 2 1;rich 3;seeds 3 5");
        c.due("move(2), 6 in a RICH one", many.move(2), 0);
        SownSeeds own = c.told("seeds 0 1;seeds 1 1");
        c.due("move(0), one's own", own.move(0), 0);
        c.seeds(own, 0, 2, 4, 4, 4, 4);
        SownSeeds back = c.told("seeds 1 2;seeds 2 1;seeds 3 1");
        c.due("move(1), as far as the other's go", back.move(1), 2);
        c.seeds(back, 4, 0, 2, 0, 4, 4);
        SownSeeds other = c.told("turn 1;seeds 5 2;seeds 0 1;seeds 1 2;barn 1 7");
        c.due("move(5)", other.move(5), 2 + 3);
        c.due("count(4)", other.count(4), 12);
        c.due("count(3)", other.count(3), 0);
        // HOUSE 0's forerunner is HOUSE 5, of the side that moves.
        c.seeds(other, 0, 0, 4, 4, 4, 0);
        SownSeeds mean = c.told("seeds 2 1;mean 3;seeds 3 1");
        c.due("move(2), a MEAN one with 2", mean.move(2), 0);
        SownSeeds deep = c.told("seeds 2 1;deep 3;seeds 3 2");
        c.due("move(2), a DEEP one with 3", deep.move(2), 3);
        SownSeeds barred = c.told("seeds 2 2;barred 3;seeds 3 2;seeds 4 1;seeds 5 1");
        c.due("move(2), as far as the BARRED one", barred.move(2), 4);
        c.seeds(barred, 4, 4, 0, 2, 0, 0);
    }

    // Only calls beyond the 512th get there; the document names the bound all the same.
    private void moveTooOften() {
        c.part("promise 8, FULL");
        SownSeeds x = c.told("board 2;mean 0;mean 1;mean 2;mean 3;seeds 0 1;seeds 1 1;seeds 2 1;seeds 3 1");
        for (int n = 1; n <= 999; n++) {
            x.move(Integer.numberOfTrailingZeros(x.count(6)));
            c.due("count(1)", x.count(1), n);
        }
        int going = Integer.numberOfTrailingZeros(x.count(6));
        c.due("move, of UNKNOWN and FULL", x.move(4), UNKNOWN);
        c.due("move, of NOT and FULL", x.move(going < 2 ? 2 : 0), NOT);
        c.due("move, FULL", x.move(going), FULL);
        c.due("count(1)", x.count(1), 999);
        c.holds("brings() is not FULL", x.brings(going) >= 0);
        c.due("undo()", x.undo(), 7);
        c.due("count(1)", x.count(1), 998);
    }

    private void drop() {
        c.part("promise 9");
        SownSeeds x = new SownSeeds();
        c.due("drop(5, 1)", x.drop(5, 1), 5);
        c.due("drop(5, 30)", x.drop(5, 30), 35);
        c.due("drop(5, 0)", x.drop(5, 0), OUTSIDE);
        c.due("drop(5, 31)", x.drop(5, 31), OUTSIDE);
        c.due("drop(5, least)", x.drop(5, LEAST), OUTSIDE);
        c.due("drop(6, 0)", x.drop(6, 0), UNKNOWN);
        c.due("drop(-1, 1)", x.drop(-1, 1), UNKNOWN);
        x.drop(5, 30);
        x.drop(5, 30);
        c.due("drop(5, 3)", x.drop(5, 3), 98);
        c.due("drop(5, 30)", x.drop(5, 30), 99);
        c.due("drop(5, 1)", x.drop(5, 1), NOT);
        c.due("drop(5, 31)", x.drop(5, 31), OUTSIDE);
        c.due("count(1)", x.count(1), 0);
        c.due("count(2)", x.count(2), 0);
        c.due("count(9)", x.count(9), 6);
        c.seeds(x, 4, 4, 4, 4, 4, 99);
    }

    private void swap() {
        c.part("promise 10");
        SownSeeds x = c.told("deep 1;rich 2;seeds 1 9");
        c.due("swap(1, 5)", x.swap(1, 5), 0);
        c.kinds(x, 0, 0, 2, 0, 0, 1);
        c.due("swap(5, 2)", x.swap(5, 2), 2);
        c.kinds(x, 0, 0, 1, 0, 0, 2);
        c.seeds(x, 4, 9, 4, 4, 4, 4);
        c.due("swap(0, 1)", x.swap(0, 1), NOT);
        c.due("swap(2, 2)", x.swap(2, 2), UNKNOWN);
        c.due("swap(2, 6)", x.swap(2, 6), UNKNOWN);
        c.due("swap(6, 2)", x.swap(6, 2), UNKNOWN);
        c.due("swap(-1, 2)", x.swap(-1, 2), UNKNOWN);
        c.due("swap(2, -1)", x.swap(2, -1), UNKNOWN);
        c.due("swap(9, 9)", x.swap(9, 9), UNKNOWN);
        c.due("count(9)", x.count(9), 2);
        c.due("count(1)", x.count(1), 0);
    }

    private void undo() {
        c.part("promise 11");
        SownSeeds x = c.told("deep 0;seeds 2 3;seeds 3 1;seeds 4 2;seeds 5 2");
        c.due("undo()", x.undo(), NOT);
        x.drop(0, 7);
        x.swap(0, 5);
        c.due("move(2)", x.move(2), 8);
        c.due("count(9)", x.count(9), 3);
        x.move(2);
        x.drop(0, 0);
        x.swap(0, 0);
        c.due("count(9), refused calls", x.count(9), 3);
        c.due("undo()", x.undo(), 2);
        c.seeds(x, 11, 4, 3, 1, 2, 2);
        c.due("count(1)", x.count(1), 0);
        c.due("count(2)", x.count(2), 0);
        c.due("count(3)", x.count(3), 0);
        c.kinds(x, 0, 0, 0, 0, 0, 1);
        c.due("undo()", x.undo(), 1);
        c.kinds(x, 1, 0, 0, 0, 0, 0);
        c.due("undo()", x.undo(), 0);
        c.seeds(x, 4, 4, 3, 1, 2, 2);
        c.due("undo()", x.undo(), NOT);
        for (int n = 1; n <= 11; n++) {
            x.drop(1, 1);
            c.due("count(9)", x.count(9), Math.min(n, 8));
        }
        for (int n = 7; n >= 0; n--) {
            c.due("undo()", x.undo(), n);
            c.due("house(1, 1)", x.house(1, 1), 7 + n);
        }
        c.due("undo()", x.undo(), NOT);
        c.due("house(1, 1)", x.house(1, 1), 7);
        x.seen(1, 1, 1, 0);
        x.box(0, 1);
        x.drop(1, 1);
        x.undo();
        c.due("count(7)", x.count(7), 1);
        c.due("count(8)", x.count(8), 1);
    }

    private void keepAndBack() {
        c.part("promises 12 and 13");
        SownSeeds x = c.told("deep 0");
        c.due("keep(-1)", x.keep(-1), UNKNOWN);
        c.due("keep(2)", x.keep(2), UNKNOWN);
        c.due("back(-1)", x.back(-1), UNKNOWN);
        c.due("back(2)", x.back(2), UNKNOWN);
        c.due("back(0)", x.back(0), NOT);
        c.due("keep(0)", x.keep(0), 0);
        c.due("back(1)", x.back(1), NOT);
        x.move(2);
        x.swap(0, 1);
        x.drop(4, 2);
        c.due("keep(1)", x.keep(1), 1);
        x.move(3);
        x.undo();
        c.due("count(9)", x.count(9), 3);
        c.due("back(0)", x.back(0), 0);
        c.due("count(9)", x.count(9), 0);
        c.due("undo()", x.undo(), NOT);
        c.seeds(x, 4, 4, 4, 4, 4, 4);
        c.kinds(x, 1, 0, 0, 0, 0, 0);
        c.due("count(2)", x.count(2), 0);
        x.drop(0, 9);
        c.due("back(1)", x.back(1), 1);
        c.seeds(x, 5, 4, 0, 5, 7, 5);
        c.kinds(x, 0, 1, 0, 0, 0, 0);
        c.due("count(2)", x.count(2), 1);
        x.drop(0, 9);
        c.due("back(1) again", x.back(1), 1);
        c.seeds(x, 5, 4, 0, 5, 7, 5);
        c.due("keep(0) over the old one", x.keep(0), 1);
        x.drop(0, 9);
        c.due("back(0)", x.back(0), 1);
        c.seeds(x, 5, 4, 0, 5, 7, 5);
        x.seen(1, 1, 1, 0);
        x.box(3, 1);
        x.back(0);
        c.due("count(7)", x.count(7), 1);
        c.due("count(8)", x.count(8), 8);
        SownSeeds barns = c.told("board 2;barn 0 5;barn 1 6");
        barns.keep(0);
        barns.move(0);
        barns.move(2);
        barns.move(1);
        barns.back(0);
        c.due("count(3)", barns.count(3), 5);
        c.due("count(4)", barns.count(4), 6);
    }

    private void brings() {
        c.part("promise 14");
        SownSeeds x = c.told("seeds 0 0;seeds 2 3;seeds 3 1;seeds 4 2;seeds 5 2;barn 0 9");
        c.due("brings(2)", x.brings(2), 8);
        c.due("brings(1)", x.brings(1), 3 + 3 + 2);
        c.due("brings(0)", x.brings(0), NOT);
        c.due("brings(3)", x.brings(3), NOT);
        c.due("brings(6)", x.brings(6), UNKNOWN);
        c.due("brings(-1)", x.brings(-1), UNKNOWN);
        c.seeds(x, 0, 4, 3, 1, 2, 2);
        c.due("count(3)", x.count(3), 9);
        c.due("move(2)", x.move(2), 8);
        c.due("brings(2)", x.brings(2), NOT);
    }

    private void best() {
        c.part("promise 15");
        SownSeeds x = c.told("board 2;seeds 0 2;seeds 1 1;seeds 2 1;seeds 3 1");
        c.due("brings(0)", x.brings(0), 2);
        c.due("brings(1)", x.brings(1), 2);
        c.due("best(1, -1)", x.best(1, -1), 5002);
        c.due("best(1, 0)", x.best(1, 0), 0);
        c.due("best(1, 1)", x.best(1, 1), NONE);
        // Behind 0 there is 0 2 0 1: 3 brings 0. Behind 1 there is 2 0 0 1: 3 brings 3.
        c.due("best(2, -1)", x.best(2, -1), 5002);
        c.due("best(2, 0)", x.best(2, 0), 0);
        c.due("best(2, 1)", x.best(2, 1), 3);
        c.due("best(2, 2)", x.best(2, 2), NONE);
        SownSeeds y = c.told("board 2;seeds 0 1;seeds 1 1;seeds 2 1;seeds 3 1;barn 1 8");
        // 1 brings 2 at once, but leaves 0 with 1 for 3, which brings 2; 0 brings nothing, but yields nothing either.
        c.due("best(1, 0)", y.best(1, 0), 1);
        c.due("best(1, -1)", y.best(1, -1), 4994);
        c.due("best(2, 0)", y.best(2, 0), 0);
        c.due("best(2, -1)", y.best(2, -1), 4992);
        SownSeeds z = c.told("board 2;seeds 0 0;seeds 1 0;barn 0 3");
        c.due("best(5, -1), OVER", z.best(5, -1), 5003);
        c.due("best(5, 0), OVER", z.best(5, 0), NONE);
        c.due("best(5, 4), OVER", z.best(5, 4), NONE);
        SownSeeds side = c.told("turn 1;barn 0 7");
        c.due("best(1, -1), of SIDE 1", side.best(1, -1), 4993);
        c.due("best(1, 0), of SIDE 1", side.best(1, 0), 3);
        // Three MOVES and it is OVER: 1, 2, 3 of one SEED, no more.
        SownSeeds end = c.told("board 2;seeds 0 0;seeds 1 1;seeds 2 0;seeds 3 0");
        c.due("best(5, 0)", end.best(5, 0), 1);
        c.due("best(5, 1)", end.best(5, 1), 2);
        c.due("best(5, 2)", end.best(5, 2), NONE);
        c.due("best(0, 0)", x.best(0, 0), OUTSIDE);
        c.due("best(6, 0)", x.best(6, 0), OUTSIDE);
        c.due("best(1, -2)", x.best(1, -2), OUTSIDE);
        c.due("best(1, 5)", x.best(1, 5), OUTSIDE);
        c.due("best(least, least)", x.best(LEAST, LEAST), OUTSIDE);
        c.due("best(most, most)", x.best(MOST, MOST), OUTSIDE);
    }

    // The least HOUSE whose MOVE leaves the other SIDE its least LEAD; done with MOVES that are undone again.
    private int leadByMoves(SownSeeds x, int d, int[] line, int at) {
        if (d == 0 || x.count(6) == 0) {
            int lead = x.count(3) - x.count(4);
            return x.count(2) == 0 ? lead : -lead;
        }
        int best = LEAST;
        for (int house = 0; house < x.count(0); house++) {
            if (x.brings(house) >= 0) {
                x.move(house);
                int[] further = new int[5];
                Arrays.fill(further, NONE);
                int lead = -leadByMoves(x, d - 1, further, at + 1);
                x.undo();
                if (lead > best) {
                    best = lead;
                    System.arraycopy(further, at, line, at, 5 - at);
                    line[at] = house;
                }
            }
        }
        return best;
    }

    private void bestStepByStep() {
        c.part("promise 15, step by step");
        for (String text : TEXTS) {
            SownSeeds x = c.told(text);
            for (int d = 1; d <= 5; d++) {
                int[] line = {NONE, NONE, NONE, NONE, NONE};
                c.due("best(" + d + ", -1) of " + text, x.best(d, NONE), 5000 + leadByMoves(x, d, line, 0));
                for (int k = 0; k < 5; k++) {
                    c.due("best(" + d + ", " + k + ") of " + text, x.best(d, k), line[k]);
                }
            }
        }
    }

    // Plays rashly by what brings() tells: behind how many MOVES it is OVER.
    private void rashGoes(String text, int want) {
        SownSeeds x = c.told(text);
        c.due("over() of " + text, x.over(), want <= 60 ? want : NONE);
        int[] leads = new int[41];
        for (int n = 0; n <= 40; n++) {
            leads[n] = x.rash(n);
        }
        for (int n = 0; n < want; n++) {
            if (n <= 40) {
                c.due("rash(" + n + ") of " + text, leads[n], 5000 + x.count(3) - x.count(4));
            }
            int most = 0;
            for (int house = 1; house < x.count(0); house++) {
                most = x.brings(house) > x.brings(most) ? house : most;
            }
            c.holds("a MOVE goes behind " + n, x.move(most) >= 0);
        }
        c.due("count(6) behind " + want, x.count(6), 0);
        for (int n = want; n <= 40; n++) {
            c.due("rash(" + n + ") of " + text, leads[n], 5000 + x.count(3) - x.count(4));
        }
    }

    private void rashStepByStep() {
        c.part("promises 16 and 17, step by step");
        rashGoes("board 3", 13);
        rashGoes("board 2;seeds 0 3;seeds 1 6;seeds 2 5;seeds 3 8", 41);
        rashGoes("board 4;mean 2;seeds 2 6;mean 5;mean 6", 59);
        rashGoes("board 2;seeds 0 9;seeds 1 8;seeds 3 7", 60);
        rashGoes("board 3;seeds 0 8;deep 1;seeds 1 8;mean 3;barred 5", 60);
        rashGoes("board 4;seeds 0 5;mean 1;deep 2;deep 3;mean 6", 61);
        rashGoes("board 4;mean 0;barred 1;seeds 2 7;barred 4;mean 5;rich 6", 61);
    }

    private void rashAndOver() {
        c.part("promises 16 and 17");
        SownSeeds x = c.told("board 2;seeds 0 1;seeds 1 1;seeds 2 1;seeds 3 1");
        c.due("rash(0)", x.rash(0), 5000);
        // 1 brings 2: 1 0 0 1; 3 brings 2: 0 0 0 0.
        c.due("rash(1)", x.rash(1), 5002);
        c.due("rash(2)", x.rash(2), 5000);
        c.due("rash(40)", x.rash(40), 5000);
        c.due("over()", x.over(), 2);
        c.due("rash(-1)", x.rash(-1), OUTSIDE);
        c.due("rash(41)", x.rash(41), OUTSIDE);
        SownSeeds least = c.told("board 2;seeds 0 2;seeds 1 1;seeds 2 1;seeds 3 1");
        // Of 0 and 1, which both bring 2, the rash take 0: 0 2 0 1; then 3: 1 2 0 0.
        c.due("rash(1)", least.rash(1), 5002);
        c.due("rash(2)", least.rash(2), 5002);
        SownSeeds side = c.told("turn 1;barn 1 7;barn 0 2");
        c.due("rash(0), of SIDE 0", side.rash(0), 4995);
        SownSeeds over = c.told("board 2;seeds 0 0;seeds 1 0");
        c.due("over()", over.over(), 0);
        c.due("rash(40)", over.rash(40), 5000);
        // A MEAN board of one SEED each goes round without end.
        SownSeeds mean = c.told("board 2;mean 0;mean 1;mean 2;mean 3;seeds 0 1;seeds 1 1;seeds 2 1;seeds 3 1");
        c.due("over(), never", mean.over(), NONE);
        SownSeeds first = new SownSeeds();
        c.due("over()", first.over(), 13);
        first.move(0);
        c.due("count(1)", first.count(1), 1);
        c.due("over(), counted from now", first.over(), 12);
    }

    private void gift() {
        c.part("promise 18");
        // With one more, HOUSE 1 reaches 4, which then has 2.
        SownSeeds x = c.told("board 3;seeds 0 0;seeds 1 2;seeds 2 0;seeds 3 5;seeds 4 1;seeds 5 5");
        c.due("best(1, -1)", x.best(1, -1), 5000);
        c.due("gift(1)", x.gift(1), 1);
        c.seeds(x, 0, 2, 0, 5, 1, 5);
        // Here HOUSE 2 with 1 takes 2 at once, and HOUSE 1 with 3 as many: the least of both.
        SownSeeds both = c.told("seeds 0 0;seeds 1 2;seeds 2 0;seeds 3 1;seeds 4 1;seeds 5 5");
        c.due("best(1, -1)", both.best(1, -1), 5002);
        c.due("gift(1)", both.gift(1), 1);
        SownSeeds over = c.told("board 2;seeds 0 0;seeds 1 0;seeds 2 1;seeds 3 1");
        c.due("gift(1), OVER", over.gift(1), 1);
        SownSeeds none = new SownSeeds();
        c.due("gift(1)", none.gift(1), NONE);
        SownSeeds barred = c.told("board 2;barred 0;barred 1");
        for (int d = 1; d <= 4; d++) {
            c.due("gift(" + d + "), all BARRED", barred.gift(d), NONE);
        }
        SownSeeds side = c.told("turn 1;seeds 3 0;seeds 4 2;seeds 5 0;seeds 0 5;seeds 1 1;seeds 2 5");
        c.due("gift(1), of SIDE 1", side.gift(1), 4);
        c.due("gift(0)", x.gift(0), OUTSIDE);
        c.due("gift(5)", x.gift(5), OUTSIDE);
        c.due("gift(least)", x.gift(LEAST), OUTSIDE);
        // Half of it, cut up, is LIFTED: 15 of 30, 16 of 31 and 32, 49 of 98, 50 of 99, which is the most.
        SownSeeds most = c.told("board 2;mean 0;barred 1;barred 2;barred 3;seeds 0 30");
        c.due("gift(1), 30", most.gift(1), 0);
        most.drop(0, 1);
        c.due("gift(1), 31", most.gift(1), NONE);
        most.drop(0, 30);
        most.drop(0, 30);
        most.drop(0, 7);
        c.due("gift(1), 98", most.gift(1), 0);
        most.drop(0, 1);
        c.due("gift(1), 99", most.gift(1), NONE);
        // A PLAIN one of 99 would bring one more by 100.
        SownSeeds full = c.told("board 2;barred 1;barred 2;barred 3");
        for (int n = 0; n < 4; n++) {
            c.due("gift(1)", full.gift(1), 0);
            full.drop(0, 30);
        }
        c.due("house(0, 1)", full.house(0, 1), 99);
        c.due("gift(1), 99", full.gift(1), NONE);
    }

    private void giftStepByStep() {
        c.part("promise 18, step by step");
        for (String text : TEXTS) {
            SownSeeds x = c.told(text);
            for (int d = 1; d <= 4; d++) {
                int most = x.best(d, NONE);
                int found = NONE;
                for (int house = 0; house < x.count(0); house++) {
                    if (house < x.count(0) / 2 == (x.count(2) == 0)) {
                        x.drop(house, 1);
                        int lead = x.best(d, NONE);
                        x.undo();
                        found = lead > most ? house : found;
                        most = Math.max(most, lead);
                    }
                }
                c.due("gift(" + d + ") of " + text, x.gift(d), found);
            }
        }
    }

    private void luckIs(SownSeeds x, int n, int above, int below) {
        c.due("luck(" + n + ", 0)", x.luck(n, 0), above);
        c.due("luck(" + n + ", 1)", x.luck(n, 1), below);
    }

    private void luck() {
        c.part("promise 19");
        SownSeeds x = c.told("board 2;seeds 0 1;seeds 1 1;seeds 2 1;seeds 3 1");
        // 1 brings 2, 0 brings nothing.
        luckIs(x, 1, 1, 2);
        // Behind 1 there is 1 0 0 1 with 2 ahead: only 3 goes, and brings 2. Behind 0: never above 0.
        luckIs(x, 2, 0, 1);
        SownSeeds three = c.told("seeds 0 4;seeds 1 4;seeds 2 1;seeds 3 1;seeds 4 4;seeds 5 4");
        luckIs(three, 1, 1, 3);
        SownSeeds two = c.told("seeds 0 0;seeds 1 2;seeds 2 1;seeds 3 1;seeds 4 4;seeds 5 4");
        luckIs(two, 1, 1, 1);
        SownSeeds over = c.told("board 2;seeds 0 0;seeds 1 0;barn 0 1");
        luckIs(over, 3, 1, 1);
        SownSeeds even = c.told("board 2;seeds 0 0;seeds 1 0");
        luckIs(even, 3, 0, 1);
        SownSeeds side = c.told("turn 1;barn 1 90");
        luckIs(side, 3, 1, 1);
        SownSeeds behind = c.told("turn 1;barn 0 90");
        luckIs(behind, 3, 0, 1);
        luckIs(new SownSeeds(), 3, 2, 27);
        c.due("luck(0, 0)", x.luck(0, 0), OUTSIDE);
        c.due("luck(4, 0)", x.luck(4, 0), OUTSIDE);
        c.due("luck(1, 2)", x.luck(1, 2), OUTSIDE);
        c.due("luck(1, -1)", x.luck(1, -1), OUTSIDE);
        c.due("luck(most, least)", x.luck(MOST, LEAST), OUTSIDE);
    }

    private void seenAndForget() {
        c.part("promises 20 and 21");
        SownSeeds x = new SownSeeds();
        c.due("forget()", x.forget(), 0);
        c.due("seen(0, 0, 0, 0)", x.seen(0, 0, 0, 0), 1);
        c.due("seen(20, 20, 1, 1)", x.seen(20, 20, 1, 1), 2);
        c.due("seen(21, 0, 0, 0)", x.seen(21, 0, 0, 0), OUTSIDE);
        c.due("seen(-1, 0, 0, 0)", x.seen(-1, 0, 0, 0), OUTSIDE);
        c.due("seen(0, 21, 0, 0)", x.seen(0, 21, 0, 0), OUTSIDE);
        c.due("seen(0, -1, 0, 0)", x.seen(0, -1, 0, 0), OUTSIDE);
        c.due("seen(0, 0, 2, 0)", x.seen(0, 0, 2, 0), OUTSIDE);
        c.due("seen(0, 0, -1, 0)", x.seen(0, 0, -1, 0), OUTSIDE);
        c.due("seen(0, 0, 0, 2)", x.seen(0, 0, 0, 2), OUTSIDE);
        c.due("seen(0, 0, 0, -1)", x.seen(0, 0, 0, -1), OUTSIDE);
        for (int n = 3; n <= 6; n++) {
            c.due("seen(4, 4, 1, 0)", x.seen(4, 4, 1, 0), n);
        }
        c.due("seen(4, 4, 1, 0)", x.seen(4, 4, 1, 0), FULL);
        c.due("seen(21, 4, 1, 0)", x.seen(21, 4, 1, 0), OUTSIDE);
        c.due("count(7)", x.count(7), 6);
        c.due("forget()", x.forget(), 6);
        c.due("forget()", x.forget(), 0);
        c.due("seen(4, 4, 1, 0)", x.seen(4, 4, 1, 0), 1);
    }

    private void kindsBy(int want, int... seen) {
        SownSeeds x = new SownSeeds();
        for (int n = 0; n < seen.length; n += 4) {
            x.seen(seen[n], seen[n + 1], seen[n + 2], seen[n + 3]);
        }
        c.due("kinds()", x.kinds(), want);
    }

    private void kinds() {
        c.part("promise 22");
        kindsBy(31);
        kindsBy(0b10111, 0, 0, 1, 0);
        kindsBy(0b01000, 0, 0, 0, 0);
        kindsBy(0b10101, 1, 1, 1, 0);
        kindsBy(0b00010, 1, 0, 1, 0);
        kindsBy(0b00101, 3, 3, 1, 1);
        kindsBy(0b00001, 3, 3, 1, 1, 4, 4, 1, 0);
        kindsBy(0b00100, 3, 3, 1, 1, 4, 4, 1, 1);
        kindsBy(0b00100, 5, 5, 1, 1);
        kindsBy(0b00101, 6, 6, 1, 0);
        kindsBy(0b10000, 7, 4, 0, 0);
        kindsBy(0b00010, 20, 19, 1, 0);
        kindsBy(0b10000, 20, 10, 0, 0);
        kindsBy(0, 3, 3, 1, 0);
        kindsBy(0, 7, 3, 0, 0);
        kindsBy(0, 7, 4, 0, 0, 7, 7, 1, 0);
    }

    private void ask() {
        c.part("promise 23");
        SownSeeds x = new SownSeeds();
        c.due("ask()", x.ask(), 4);
        x.seen(0, 0, 1, 0);
        c.due("ask(), PLAIN, DEEP, RICH, MEAN", x.ask(), 4);
        x.seen(1, 1, 1, 0);
        c.due("ask(), PLAIN, RICH, MEAN", x.ask(), 4);
        x.seen(2, 2, 1, 1);
        c.due("ask(), PLAIN, RICH", x.ask(), 4);
        x.seen(4, 4, 1, 1);
        c.due("ask(), RICH", x.ask(), NONE);
        x.seen(4, 4, 1, 0);
        c.due("ask(), none", x.ask(), NONE);
        c.due("count(7)", x.count(7), 5);
    }

    private void box() {
        c.part("promise 24");
        SownSeeds x = new SownSeeds();
        c.due("box(0, 0)", x.box(0, 0), 0);
        c.due("put(0, 0, 1)", x.put(0, 0, 1), ROOM);
        c.due("box(4, 4)", x.box(4, 4), 4);
        c.due("count(8)", x.count(8), 0b10001);
        c.due("box(5, 1)", x.box(5, 1), UNKNOWN);
        c.due("box(-1, 9)", x.box(-1, 9), UNKNOWN);
        c.due("box(5, -1)", x.box(5, -1), UNKNOWN);
        c.due("box(0, 5)", x.box(0, 5), OUTSIDE);
        c.due("box(0, most)", x.box(0, MOST), OUTSIDE);
        c.due("box(0, -1)", x.box(0, -1), SIZE);
        c.due("box(0, least)", x.box(0, LEAST), SIZE);
        c.part("promise 24, an old one");
        x.box(0, 4);
        x.box(1, 4);
        x.box(2, 4);
        x.put(0, 0, 1);
        x.put(0, 2, 1);
        x.put(0, 0, 2);
        x.put(1, 2, 2);
        x.put(1, 0, 3);
        c.due("box(1, 5)", x.box(1, 5), OUTSIDE);
        c.due("box(1, -1)", x.box(1, -1), SIZE);
        c.due("deep(0, 3)", x.deep(0, 3), 0b00110);
        c.due("box(1, 2)", x.box(1, 2), 2);
        c.due("deep(1, 0)", x.deep(1, 0), 0);
        c.due("deep(0, 3)", x.deep(0, 3), 0);
        c.due("deep(0, 0)", x.deep(0, 0), 2);
        c.due("put(0, 2, 2), which lies in none", x.put(0, 2, 2), 3);
        c.due("take(0, 2)", x.take(0, 2), 2);
        c.due("take(0, 0)", x.take(0, 0), 50002);
        c.due("take(0, 0)", x.take(0, 0), 50001);
        c.due("put(0, 2, 1), which lies in none", x.put(0, 2, 1), 1);
    }

    private void put() {
        c.part("promise 25");
        SownSeeds x = new SownSeeds();
        x.box(0, 4);
        c.due("put(0, 0, 9999)", x.put(0, 0, 9999), 1);
        c.due("put(0, 0, -9999)", x.put(0, 0, -9999), 2);
        c.due("put(0, 1, 0)", x.put(0, 1, 0), 3);
        c.due("put(0, 0, 10000)", x.put(0, 0, 10000), OUTSIDE);
        c.due("put(0, 0, -10000)", x.put(0, 0, -10000), OUTSIDE);
        c.due("put(0, 3, 0)", x.put(0, 3, 0), OUTSIDE);
        c.due("put(0, -1, 0)", x.put(0, -1, 0), OUTSIDE);
        c.due("put(5, 9, 0)", x.put(5, 9, 0), UNKNOWN);
        c.due("put(-1, 0, 0)", x.put(-1, 0, 0), UNKNOWN);
        c.due("put(0, 1, 6)", x.put(0, 1, 6), UNKNOWN);
        c.due("put(0, 1, -1)", x.put(0, 1, -1), UNKNOWN);
        c.due("put(0, 2, 5)", x.put(0, 2, 5), UNKNOWN);
        c.due("put(0, 2, -1)", x.put(0, 2, -1), UNKNOWN);
        c.due("put(1, 0, 10000), missing", x.put(1, 0, 10000), OUTSIDE);
        c.due("put(1, 1, 6), missing", x.put(1, 1, 6), UNKNOWN);
        c.due("put(1, 0, 1), missing", x.put(1, 0, 1), NULL);
        c.due("put(0, 2, 1), missing", x.put(0, 2, 1), NULL);
        c.due("put(1, 2, 0), missing", x.put(1, 2, 0), NULL);
        c.due("put(1, 2, 1), missing", x.put(1, 2, 1), NULL);
        c.due("put(0, 2, 0)", x.put(0, 2, 0), LOOP);
        c.due("put(0, 1, 5)", x.put(0, 1, 5), 4);
        c.due("put(0, 0, 1)", x.put(0, 0, 1), ROOM);
        c.due("put(0, 2, 0), of ROOM and LOOP", x.put(0, 2, 0), ROOM);
        c.due("put(0, 2, 1), of NULL and ROOM", x.put(0, 2, 1), NULL);
        c.part("promise 25, BOXES");
        SownSeeds y = new SownSeeds();
        for (int box = 0; box < 5; box++) {
            y.box(box, 2);
        }
        for (int box = 0; box < 4; box++) {
            c.due("put, one in another", y.put(box, 2, box + 1), 1);
        }
        c.due("put(4, 2, 0), through all", y.put(4, 2, 0), LOOP);
        c.due("put(0, 2, 1), in this one", y.put(0, 2, 1), NOT);
        c.due("put(0, 2, 3), in another one", y.put(0, 2, 3), NOT);
        c.due("put(3, 2, 3), in another one", y.put(3, 2, 3), NOT);
        y.put(0, 0, 1);
        c.due("put(0, 2, 3), of NOT and ROOM", y.put(0, 2, 3), NOT);
        y.lose(0);
        c.due("put(0, 2, 3), of NOT and NULL", y.put(0, 2, 3), NOT);
        c.due("put(0, 2, 1)", y.put(0, 2, 1), NULL);
        c.due("put(4, 2, 1), through all", y.put(4, 2, 1), LOOP);
        c.due("put(4, 2, 4)", y.put(4, 2, 4), NOT);
        SownSeeds wide = c.told("board 5");
        wide.box(0, 1);
        c.due("put(0, 1, 9)", wide.put(0, 1, 9), 1);
    }

    private void take() {
        c.part("promise 26");
        SownSeeds x = new SownSeeds();
        x.box(0, 4);
        x.box(1, 1);
        x.put(0, 0, -9999);
        x.put(0, 1, 5);
        x.put(0, 2, 1);
        x.put(0, 0, 9999);
        c.due("take(0, 1)", x.take(0, 1), CAST);
        c.due("take(0, 2)", x.take(0, 2), CAST);
        c.due("take(0, 0)", x.take(0, 0), 59999);
        c.due("take(0, 0)", x.take(0, 0), CAST);
        c.due("take(0, 1)", x.take(0, 1), CAST);
        c.due("put(0, 2, 1)", x.put(0, 2, 1), NOT);
        c.due("take(0, 2)", x.take(0, 2), 1);
        c.due("put(1, 2, 0)", x.put(1, 2, 0), 1);
        c.due("take(1, 2)", x.take(1, 2), 0);
        c.due("take(0, 2)", x.take(0, 2), CAST);
        c.due("take(0, 1)", x.take(0, 1), 5);
        c.due("take(0, 0)", x.take(0, 0), 40001);
        c.due("take(0, 0)", x.take(0, 0), EMPTY);
        c.due("take(0, 2)", x.take(0, 2), EMPTY);
        c.due("take(2, 0)", x.take(2, 0), NULL);
        c.due("take(2, 3)", x.take(2, 3), OUTSIDE);
        c.due("take(0, -1)", x.take(0, -1), OUTSIDE);
        c.due("take(5, 3)", x.take(5, 3), UNKNOWN);
        c.due("take(-1, 0)", x.take(-1, 0), UNKNOWN);
    }

    private void spill() {
        c.part("promise 27");
        SownSeeds x = new SownSeeds();
        c.due("spill(5)", x.spill(5), UNKNOWN);
        c.due("spill(-1)", x.spill(-1), UNKNOWN);
        c.due("spill(0)", x.spill(0), NULL);
        x.box(0, 4);
        c.due("spill(0)", x.spill(0), EMPTY);
        x.put(0, 0, 7);
        c.due("spill(0)", x.spill(0), CAST);
        x.put(0, 1, 1);
        c.due("spill(0)", x.spill(0), CAST);
        x.box(1, 4);
        x.box(2, 1);
        x.box(3, 1);
        x.put(1, 0, 8);
        x.put(1, 2, 2);
        x.put(2, 0, 9);
        x.put(1, 0, 10);
        x.put(0, 2, 1);
        c.due("spill(0), 2 and 3", x.spill(0), ROOM);
        c.due("deep(0, 3)", x.deep(0, 3), 0b00110);
        c.due("take(1, 0)", x.take(1, 0), 50010);
        c.due("spill(0), 2 and 2", x.spill(0), 4);
        c.due("deep(0, 3)", x.deep(0, 3), 0b00100);
        c.due("deep(1, 0)", x.deep(1, 0), 0);
        c.due("take(1, 0)", x.take(1, 0), EMPTY);
        c.due("put(3, 2, 1), which lies in none", x.put(3, 2, 1), 1);
        c.due("put(1, 2, 0)", x.put(1, 2, 0), 1);
        c.due("put(2, 2, 3), of ROOM and LOOP", x.put(2, 2, 3), ROOM);
        c.due("take(2, 0)", x.take(2, 0), 50009);
        c.due("put(2, 2, 3)", x.put(2, 2, 3), LOOP);
        c.due("spill(0), nothing in it", x.spill(0), 3);
        c.due("take(0, 0)", x.take(0, 0), 50008);
        c.due("take(0, 1)", x.take(0, 1), 1);
        c.due("take(0, 0)", x.take(0, 0), 50007);
        SownSeeds one = new SownSeeds();
        one.box(0, 1);
        one.box(1, 4);
        one.put(1, 0, 1);
        one.put(0, 2, 1);
        c.due("spill(0), one for one", one.spill(0), 1);
        c.due("take(0, 0)", one.take(0, 0), 50001);
    }

    private void deep() {
        c.part("promise 28");
        SownSeeds x = new SownSeeds();
        c.due("deep(0, 0)", x.deep(0, 0), NULL);
        c.due("deep(0, 5)", x.deep(0, 5), OUTSIDE);
        c.due("deep(0, -1)", x.deep(0, -1), OUTSIDE);
        c.due("deep(5, 5)", x.deep(5, 5), UNKNOWN);
        c.due("deep(-1, 0)", x.deep(-1, 0), UNKNOWN);
        for (int box = 0; box < 5; box++) {
            x.box(box, 4);
        }
        int[] empty = {0, 50000, 0, 0, 0};
        for (int what = 0; what < 5; what++) {
            c.due("deep(0, " + what + "), nothing in it", x.deep(0, what), empty[what]);
        }
        x.put(0, 0, -5);
        x.put(0, 1, 5);
        x.put(0, 2, 3);
        x.put(0, 2, 1);
        x.put(1, 0, 9);
        x.put(1, 0, 9);
        x.put(1, 1, 5);
        x.put(1, 2, 4);
        x.put(4, 1, 0);
        x.put(4, 0, -100);
        x.put(2, 0, 1000);
        int[] all = {4, 50000 - 87, 0b100001, 0b11010, 2};
        int[] inner = {3, 50000 - 82, 0b100001, 0b10000, 1};
        int[] last = {1, 50000 - 100, 0b000001, 0, 0};
        for (int what = 0; what < 5; what++) {
            c.due("deep(0, " + what + ")", x.deep(0, what), all[what]);
            c.due("deep(1, " + what + ")", x.deep(1, what), inner[what]);
            c.due("deep(4, " + what + ")", x.deep(4, what), last[what]);
        }
        x.put(4, 2, 2);
        c.due("deep(0, 4)", x.deep(0, 4), 3);
        c.due("deep(0, 1)", x.deep(0, 1), 50913);
    }

    private void alike() {
        c.part("promise 29");
        SownSeeds x = new SownSeeds();
        c.due("alike(0, 5)", x.alike(0, 5), UNKNOWN);
        c.due("alike(-1, 0)", x.alike(-1, 0), UNKNOWN);
        c.due("alike(0, 0)", x.alike(0, 0), NULL);
        x.box(0, 4);
        c.due("alike(0, 1)", x.alike(0, 1), NULL);
        c.due("alike(1, 0)", x.alike(1, 0), NULL);
        c.due("alike(0, 0)", x.alike(0, 0), 1);
        x.box(1, 2);
        c.due("alike(0, 1), nothing in both", x.alike(0, 1), 1);
        x.put(0, 0, 1);
        c.due("alike(0, 1)", x.alike(0, 1), 0);
        x.put(1, 1, 1);
        c.due("alike(0, 1), 1 and HOUSE 1", x.alike(0, 1), 0);
        x.take(1, 1);
        x.put(1, 0, 1);
        c.due("alike(0, 1)", x.alike(0, 1), 1);
        x.put(0, 0, 2);
        x.put(1, 0, 3);
        c.due("alike(0, 1), 2 and 3", x.alike(0, 1), 0);
        x.take(0, 0);
        x.take(1, 0);
        x.box(2, 1);
        x.box(3, 4);
        x.put(0, 2, 2);
        x.put(1, 2, 3);
        c.due("alike(0, 1), BOXES", x.alike(0, 1), 1);
        x.put(2, 1, 4);
        c.due("alike(0, 1), BOXES", x.alike(0, 1), 0);
        x.put(3, 1, 4);
        c.due("alike(0, 1), BOXES", x.alike(0, 1), 1);
        c.due("alike(1, 0), BOXES", x.alike(1, 0), 1);
        c.due("alike(2, 3)", x.alike(2, 3), 1);
        c.due("alike(0, 2)", x.alike(0, 2), 0);
        x.take(3, 1);
        x.put(3, 1, 3);
        c.due("alike(0, 1), HOUSES 4 and 3", x.alike(0, 1), 0);
        SownSeeds order = new SownSeeds();
        order.box(0, 2);
        order.box(1, 2);
        order.put(0, 0, 1);
        order.put(0, 0, 2);
        order.put(1, 0, 2);
        order.put(1, 0, 1);
        c.due("alike(0, 1), the other way about", order.alike(0, 1), 0);
    }

    private void lose() {
        c.part("promise 30");
        SownSeeds x = new SownSeeds();
        c.due("lose(5)", x.lose(5), UNKNOWN);
        c.due("lose(-1)", x.lose(-1), UNKNOWN);
        c.due("lose(0)", x.lose(0), NULL);
        x.box(0, 3);
        x.box(1, 4);
        x.box(2, 1);
        x.put(0, 2, 1);
        x.put(0, 0, 5);
        x.put(1, 2, 2);
        x.put(1, 0, 6);
        x.put(2, 0, 7);
        c.due("lose(1)", x.lose(1), 2);
        c.due("lose(1)", x.lose(1), NULL);
        c.due("count(8)", x.count(8), 0b00101);
        c.due("deep(0, 0)", x.deep(0, 0), 1);
        c.due("deep(0, 3)", x.deep(0, 3), 0);
        c.due("deep(2, 1)", x.deep(2, 1), 50007);
        c.due("put(0, 2, 2), which lies in none", x.put(0, 2, 2), 2);
        c.due("take(0, 2)", x.take(0, 2), 2);
        c.due("take(0, 0)", x.take(0, 0), 50005);
        c.due("lose(0)", x.lose(0), 0);
        x.box(1, 4);
        c.due("deep(1, 0)", x.deep(1, 0), 0);
    }

    private void count() {
        c.part("promise 31");
        SownSeeds x = c.told("board 4;turn 1;barn 0 12;barn 1 34;seeds 0 9;barred 5;deep 6;seeds 6 1");
        int[] want = {8, 0, 1, 12, 34, 34, 0b10010000, 0, 0, 0, 0};
        for (int what = 0; what <= 10; what++) {
            c.due("count(" + what + ")", x.count(what), want[what]);
        }
        x.move(7);
        x.seen(0, 0, 0, 0);
        x.box(1, 0);
        x.box(4, 0);
        x.write(1);
        x.write(2);
        int[] then = {8, 1, 0, 12, 34, 34, 0b00001111, 1, 0b10010, 1, 2};
        for (int what = 0; what <= 10; what++) {
            c.due("count(" + what + ")", x.count(what), then[what]);
        }
        c.due("count(-1)", x.count(-1), OUTSIDE);
        c.due("count(11)", x.count(11), OUTSIDE);
        c.due("count(least)", x.count(LEAST), OUTSIDE);
        c.due("count(most)", x.count(MOST), OUTSIDE);
        SownSeeds reaped = c.told("seeds 2 3;seeds 3 1;seeds 4 2;seeds 5 2");
        reaped.move(2);
        c.due("count(5)", reaped.count(5), 8);
    }

    private void foretellingChangesNothing() {
        c.part("promises 14 to 19, nothing changes");
        SownSeeds x = c.told("deep 1;rich 4;barn 1 3");
        x.move(0);
        x.keep(0);
        x.move(3);
        x.brings(1);
        x.best(5, -1);
        x.best(5, 3);
        x.rash(40);
        x.over();
        x.gift(4);
        x.luck(3, 0);
        x.ask();
        x.kinds();
        c.seeds(x, 1, 6, 6, 0, 1, 5);
        c.kinds(x, 0, 1, 0, 0, 2, 0);
        c.due("count(1)", x.count(1), 2);
        c.due("count(2)", x.count(2), 0);
        c.due("count(3)", x.count(3), 5);
        c.due("count(4)", x.count(4), 3);
        c.due("count(9)", x.count(9), 2);
        c.due("undo()", x.undo(), 1);
        c.seeds(x, 0, 5, 5, 5, 0, 4);
        c.due("back(0)", x.back(0), 1);
    }
}
