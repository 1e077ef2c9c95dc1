import java.util.function.Supplier;
import java.util.function.ToIntFunction;

/**
 * "Refused, and nothing changes", "it changes nothing", "FORETOLD (nothing changes)": each such call is made on an
 * object in the midst of things, and all that can be read of it then is held against a twin without the call.
 */
public final class RefusedTest {
    private static final int NONE = -1, UNKNOWN = -2, OUTSIDE = -3, NOT = -4, FULL = -5;
    private static final int NULL = -11, EMPTY = -12, CAST = -13, ROOM = -14, LOOP = -15, SIZE = -16;
    private static final int LEAST = Integer.MIN_VALUE, MOST = Integer.MAX_VALUE;

    private final Checks c = new Checks();
    private Supplier<SownSeeds> start = RefusedTest::inTheMidst;
    private ToIntFunction<SownSeeds> ahead = x -> 0;

    public static void main(String[] args) {
        RefusedTest t = new RefusedTest();
        t.twins();
        t.told();
        t.toldFull();
        t.done();
        t.doneAtTheEdges();
        t.foretold();
        t.foretoldWithoutChange();
        t.seen();
        t.boxes();
        t.put();
        t.takeAndSpill();
        t.readBoxes();
        t.c.end();
    }

    /**
     * In the midst of things: SIDE 0 has the TURN; HOUSE 0 is MEAN, 1 RICH, 2 has no SEEDS, 3 is BARRED, 4 DEEP,
     * 5 has 99; six can be undone, one board is kept, two are SEEN, of a text there is "seeds 9"; BOX 1 lies in 0,
     * 2 in 1, 3 is full, 4 is missing.
     */
    private static SownSeeds inTheMidst() {
        SownSeeds x = new SownSeeds();
        Checks.write(x, "deep 0;rich 1;barred 3;mean 4;seeds 1 9;seeds 4 1;seeds 5 30;barn 0 7");
        x.board();
        x.move(2);
        x.keep(0);
        x.drop(5, 30);
        x.drop(5, 30);
        x.drop(5, 30);
        x.swap(0, 4);
        x.move(4);
        x.seen(3, 3, 1, 1);
        x.seen(6, 6, 1, 0);
        x.box(0, 3);
        x.box(1, 2);
        x.box(2, 4);
        x.box(3, 1);
        x.put(0, 0, 5);
        x.put(0, 1, 3);
        x.put(0, 2, 1);
        x.put(1, 2, 2);
        x.put(3, 0, -7);
        Checks.write(x, "seeds 9");
        return x;
    }

    private SownSeeds prepared() {
        SownSeeds x = start.get();
        ahead.applyAsInt(x);
        return x;
    }

    private void unchanged(String call, SownSeeds x) {
        c.holds(call + " changes nothing", Witness.of(x).equals(Witness.of(prepared())));
    }

    private void refused(String call, ToIntFunction<SownSeeds> made, int want) {
        SownSeeds x = prepared();
        c.due(call, made.applyAsInt(x), want);
        unchanged(call, x);
    }

    private void answered(String call, ToIntFunction<SownSeeds> made) {
        SownSeeds x = prepared();
        c.holds(call + " is answered", made.applyAsInt(x) >= NONE);
        unchanged(call, x);
    }

    // That the witness sees what a call changes, or its word would be worth nothing.
    private void changed(String call, ToIntFunction<SownSeeds> made) {
        SownSeeds x = prepared();
        made.applyAsInt(x);
        c.holds(call + " is seen", !Witness.of(x).equals(Witness.of(prepared())));
    }

    private void twins() {
        c.part("the witness");
        unchanged("nothing", inTheMidst());
        changed("move(0)", x -> x.move(0));
        changed("drop(2, 1)", x -> x.drop(2, 1));
        changed("swap(0, 1)", x -> x.swap(0, 1));
        changed("undo()", x -> x.undo());
        changed("keep(0)", x -> x.keep(0));
        changed("keep(1)", x -> x.keep(1));
        changed("back(0)", x -> x.back(0));
        changed("write('9')", x -> x.write('9'));
        changed("erase()", x -> x.erase());
        changed("seen(4, 4, 1, 1)", x -> x.seen(4, 4, 1, 1));
        changed("forget()", x -> x.forget());
        changed("box(4, 0)", x -> x.box(4, 0));
        changed("box(3, 2)", x -> x.box(3, 2));
        changed("put(1, 1, 2)", x -> x.put(1, 1, 2));
        changed("take(0, 2)", x -> x.take(0, 2));
        changed("spill(0)", x -> x.spill(0));
        changed("lose(2)", x -> x.lose(2));
    }

    private void told() {
        c.part("refused, what is told");
        refused("write(-1)", x -> x.write(-1), OUTSIDE);
        refused("write(256)", x -> x.write(256), OUTSIDE);
        refused("board(), of a FAULT", x -> x.board(), NOT);
        refused("fault()", x -> x.fault(), 6);
        refused("house(6, 0)", x -> x.house(6, 0), UNKNOWN);
        refused("house(0, 5)", x -> x.house(0, 5), OUTSIDE);
        refused("as(-1, 0)", x -> x.as(-1, 0), UNKNOWN);
        refused("as(0, 6)", x -> x.as(0, 6), OUTSIDE);
        refused("as(0, 1)", x -> x.as(0, 1), NOT);
        refused("count(11)", x -> x.count(11), OUTSIDE);
        ahead = x -> x.erase();
        refused("board(), of the empty text", x -> x.board(), NOT);
        ahead = x -> telling(x, "board 2;deep 1;seeds 0 9;barn 1 3;turn 1;turn 2");
        refused("board(), of a FAULT in the last CLAUSE", x -> x.board(), NOT);
        refused("fault(), in the last CLAUSE", x -> x.fault(), 46);
        ahead = x -> telling(x, "deep 1;seeds 0 9;barn 1 3;turn 1");
        answered("fault(), of none", x -> x.fault());
        changed("board()", x -> x.board());
        ahead = x -> 0;
    }

    private static int telling(SownSeeds x, String text) {
        x.erase();
        Checks.write(x, text);
        return 0;
    }

    private void toldFull() {
        c.part("refused, a full text");
        // In the midst of things there would be more than 512 calls.
        start = SownSeeds::new;
        ahead = x -> telling(x, "turn 1" + " ".repeat(194));
        refused("write('a'), FULL", x -> x.write('a'), FULL);
        refused("write(256), of OUTSIDE and FULL", x -> x.write(256), OUTSIDE);
        start = RefusedTest::inTheMidst;
        ahead = x -> 0;
    }

    private void done() {
        c.part("refused, what is done");
        refused("move(6)", x -> x.move(6), UNKNOWN);
        refused("move(least)", x -> x.move(LEAST), UNKNOWN);
        refused("move(2), none are LIFTED", x -> x.move(2), NOT);
        refused("move(5), of the other SIDE", x -> x.move(5), NOT);
        refused("drop(6, 1)", x -> x.drop(6, 1), UNKNOWN);
        refused("drop(0, 0)", x -> x.drop(0, 0), OUTSIDE);
        refused("drop(0, 31)", x -> x.drop(0, 31), OUTSIDE);
        refused("drop(5, 1), of 99", x -> x.drop(5, 1), NOT);
        refused("swap(0, 6)", x -> x.swap(0, 6), UNKNOWN);
        refused("swap(-1, 0)", x -> x.swap(-1, 0), UNKNOWN);
        refused("swap(0, 0)", x -> x.swap(0, 0), UNKNOWN);
        refused("swap(2, 5), of one KIND", x -> x.swap(2, 5), NOT);
        refused("keep(2)", x -> x.keep(2), UNKNOWN);
        refused("keep(-1)", x -> x.keep(-1), UNKNOWN);
        refused("back(2)", x -> x.back(2), UNKNOWN);
        refused("back(-1)", x -> x.back(-1), UNKNOWN);
        refused("back(1), nothing was kept", x -> x.back(1), NOT);
    }

    private void doneAtTheEdges() {
        c.part("refused, nothing can be undone");
        ahead = x -> x.back(0);
        refused("undo(), none", x -> x.undo(), NOT);
        c.part("refused, eight can be undone");
        ahead = x -> {
            for (int n = 0; n < 9; n++) {
                x.drop(2, 1);
            }
            return 0;
        };
        refused("drop(5, 1), of 99", x -> x.drop(5, 1), NOT);
        refused("move(5)", x -> x.move(5), NOT);
        refused("swap(2, 5)", x -> x.swap(2, 5), NOT);
        ahead = x -> 0;
    }

    private void foretold() {
        c.part("refused, foretold");
        refused("brings(6)", x -> x.brings(6), UNKNOWN);
        refused("brings(2)", x -> x.brings(2), NOT);
        refused("brings(5)", x -> x.brings(5), NOT);
        refused("best(0, -1)", x -> x.best(0, -1), OUTSIDE);
        refused("best(6, -1)", x -> x.best(6, -1), OUTSIDE);
        refused("best(1, -2)", x -> x.best(1, -2), OUTSIDE);
        refused("best(1, 5)", x -> x.best(1, 5), OUTSIDE);
        refused("rash(-1)", x -> x.rash(-1), OUTSIDE);
        refused("rash(41)", x -> x.rash(41), OUTSIDE);
        refused("gift(0)", x -> x.gift(0), OUTSIDE);
        refused("gift(5)", x -> x.gift(5), OUTSIDE);
        refused("luck(0, 0)", x -> x.luck(0, 0), OUTSIDE);
        refused("luck(4, 0)", x -> x.luck(4, 0), OUTSIDE);
        refused("luck(1, 2)", x -> x.luck(1, 2), OUTSIDE);
    }

    private void foretoldWithoutChange() {
        c.part("FORETOLD (nothing changes)");
        answered("brings(0)", x -> x.brings(0));
        answered("brings(1)", x -> x.brings(1));
        for (int d = 1; d <= 5; d++) {
            int moves = d;
            for (int k = -1; k <= 4; k++) {
                int at = k;
                answered("best(" + d + ", " + k + ")", x -> x.best(moves, at));
            }
        }
        answered("rash(0)", x -> x.rash(0));
        answered("rash(40)", x -> x.rash(40));
        answered("over()", x -> x.over());
        for (int d = 1; d <= 4; d++) {
            int moves = d;
            answered("gift(" + d + ")", x -> x.gift(moves));
        }
        for (int n = 1; n <= 3; n++) {
            int moves = n;
            answered("luck(" + n + ", 0)", x -> x.luck(moves, 0));
            answered("luck(" + n + ", 1)", x -> x.luck(moves, 1));
        }
        c.part("what only looks changes nothing");
        answered("kinds()", x -> x.kinds());
        answered("ask()", x -> x.ask());
        answered("house(0, 4)", x -> x.house(0, 4));
        answered("as(0, 0)", x -> x.as(0, 0));
        answered("deep(0, 1)", x -> x.deep(0, 1));
        answered("alike(0, 1)", x -> x.alike(0, 1));
        answered("count(6)", x -> x.count(6));
    }

    private void seen() {
        c.part("refused, what was seen");
        refused("seen(21, 0, 0, 0)", x -> x.seen(21, 0, 0, 0), OUTSIDE);
        refused("seen(0, -1, 0, 0)", x -> x.seen(0, -1, 0, 0), OUTSIDE);
        refused("seen(0, 0, 2, 0)", x -> x.seen(0, 0, 2, 0), OUTSIDE);
        refused("seen(0, 0, 0, -1)", x -> x.seen(0, 0, 0, -1), OUTSIDE);
        ahead = x -> {
            for (int n = 0; n < 4; n++) {
                x.seen(4, 4, 1, 1);
            }
            return 0;
        };
        refused("seen(4, 4, 1, 0), FULL", x -> x.seen(4, 4, 1, 0), FULL);
        refused("seen(4, 4, 1, 2), of OUTSIDE and FULL", x -> x.seen(4, 4, 1, 2), OUTSIDE);
        ahead = x -> 0;
    }

    private void boxes() {
        c.part("refused, boxes");
        refused("box(5, 1)", x -> x.box(5, 1), UNKNOWN);
        refused("box(-1, 1)", x -> x.box(-1, 1), UNKNOWN);
        refused("box(1, 5)", x -> x.box(1, 5), OUTSIDE);
        refused("box(1, most)", x -> x.box(1, MOST), OUTSIDE);
        refused("box(1, -1)", x -> x.box(1, -1), SIZE);
        refused("box(4, least)", x -> x.box(4, LEAST), SIZE);
        refused("lose(5)", x -> x.lose(5), UNKNOWN);
        refused("lose(4)", x -> x.lose(4), NULL);
    }

    private void put() {
        c.part("refused, put");
        refused("put(5, 0, 1)", x -> x.put(5, 0, 1), UNKNOWN);
        refused("put(2, 1, 6)", x -> x.put(2, 1, 6), UNKNOWN);
        refused("put(2, 2, 5)", x -> x.put(2, 2, 5), UNKNOWN);
        refused("put(2, 3, 0)", x -> x.put(2, 3, 0), OUTSIDE);
        refused("put(2, 0, 10000)", x -> x.put(2, 0, 10000), OUTSIDE);
        refused("put(2, 2, 1), in another one", x -> x.put(2, 2, 1), NOT);
        refused("put(1, 2, 2), in this one", x -> x.put(1, 2, 2), NOT);
        refused("put(4, 0, 1)", x -> x.put(4, 0, 1), NULL);
        refused("put(2, 2, 4)", x -> x.put(2, 2, 4), NULL);
        refused("put(3, 0, 1)", x -> x.put(3, 0, 1), ROOM);
        refused("put(3, 2, 0)", x -> x.put(3, 2, 0), ROOM);
        refused("put(2, 2, 0), through 1", x -> x.put(2, 2, 0), LOOP);
        refused("put(1, 2, 0)", x -> x.put(1, 2, 0), LOOP);
    }

    private void takeAndSpill() {
        c.part("refused, take and spill");
        refused("take(5, 0)", x -> x.take(5, 0), UNKNOWN);
        refused("take(0, 3)", x -> x.take(0, 3), OUTSIDE);
        refused("take(4, 0)", x -> x.take(4, 0), NULL);
        refused("take(2, 0)", x -> x.take(2, 0), EMPTY);
        refused("take(0, 0)", x -> x.take(0, 0), CAST);
        refused("take(0, 1)", x -> x.take(0, 1), CAST);
        refused("take(3, 2)", x -> x.take(3, 2), CAST);
        refused("spill(5)", x -> x.spill(5), UNKNOWN);
        refused("spill(4)", x -> x.spill(4), NULL);
        refused("spill(2)", x -> x.spill(2), EMPTY);
        refused("spill(3)", x -> x.spill(3), CAST);
        ahead = x -> x.put(1, 0, 8);
        refused("spill(0), 2 and 2 for 3", x -> x.spill(0), ROOM);
        ahead = x -> 0;
    }

    private void readBoxes() {
        c.part("refused, deep and alike");
        refused("deep(5, 0)", x -> x.deep(5, 0), UNKNOWN);
        refused("deep(0, 5)", x -> x.deep(0, 5), OUTSIDE);
        refused("deep(4, 0)", x -> x.deep(4, 0), NULL);
        refused("alike(0, 5)", x -> x.alike(0, 5), UNKNOWN);
        refused("alike(0, 4)", x -> x.alike(0, 4), NULL);
        refused("alike(4, 0)", x -> x.alike(4, 0), NULL);
    }
}
