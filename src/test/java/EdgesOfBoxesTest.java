/**
 * The edges that the document names of BOXES, and those of promises 24 to 31:
 * a test for each sentence, which its part tells.
 */
public final class EdgesOfBoxesTest {
    private static final int UNKNOWN = -2, OUTSIDE = -3, NOT = -4;
    private static final int NULL = -11, EMPTY = -12, CAST = -13, ROOM = -14, LOOP = -15, SIZE = -16;
    private static final int LEAST = Integer.MIN_VALUE, MOST = Integer.MAX_VALUE;
    private static final int[] NO_BOX = {-1, 5, LEAST, MOST};

    private final Checks c = new Checks();

    public static void main(String[] args) {
        EdgesOfBoxesTest t = new EdgesOfBoxesTest();
        t.boxesFrom0To4();
        t.missingAtFirst();
        t.roomFrom0To4();
        t.inOneOtherAtMost();
        t.boxSizes();
        t.boxInPlaceOfAnOldOne();
        t.boxRefusedLeavesTheOldOne();
        t.putUnknown();
        t.putOutside();
        t.putNumbers();
        t.putNot();
        t.putNull();
        t.putRoom();
        t.putLoop();
        t.putFirstInOrder();
        t.takeRefuses();
        t.takeNullEmptyCast();
        t.takeOfEach();
        t.takenBoxLiesInNone();
        t.spillNullEmptyCast();
        t.spillRoom();
        t.spillAsItLay();
        t.spillOfNothing();
        t.spilledBoxes();
        t.deepRefuses();
        t.deepOfNothing();
        t.deepNumbersAndSums();
        t.deepHouses();
        t.deepBoxes();
        t.deepDepth();
        t.alikeRefuses();
        t.alikeOneAndTheSame();
        t.alikeOneOnTheOther();
        t.alikeByWhatTheyHold();
        t.loseRefuses();
        t.loseFromTheMiddle();
        t.loseAll();
        t.countOutside();
        t.countOfEach();
        t.c.end();
    }

    private static SownSeeds withBoxes(int room) {
        SownSeeds x = new SownSeeds();
        for (int box = 0; box < 5; box++) {
            x.box(box, room);
        }
        return x;
    }

    // Each in the one below it: 4 in 3 in 2 in 1 in 0.
    private SownSeeds nested(int room) {
        SownSeeds x = withBoxes(room);
        for (int box = 0; box < 4; box++) {
            c.due("put(" + box + ", 2, " + (box + 1) + ")", x.put(box, 2, box + 1), 1);
        }
        return x;
    }

    // ---- 4

    private void boxesFrom0To4() {
        c.part("BOXES 0 .. 4: UNKNOWN (no such BOX)");
        SownSeeds x = withBoxes(4);
        c.due("count(8)", x.count(8), 0b11111);
        for (int box : NO_BOX) {
            c.due("box(" + box + ", 1)", x.box(box, 1), UNKNOWN);
            c.due("put(" + box + ", 0, 1)", x.put(box, 0, 1), UNKNOWN);
            c.due("put(0, 2, " + box + ")", x.put(0, 2, box), UNKNOWN);
            c.due("take(" + box + ", 0)", x.take(box, 0), UNKNOWN);
            c.due("spill(" + box + ")", x.spill(box), UNKNOWN);
            c.due("deep(" + box + ", 0)", x.deep(box, 0), UNKNOWN);
            c.due("alike(0, " + box + ")", x.alike(0, box), UNKNOWN);
            c.due("alike(" + box + ", 0)", x.alike(box, 0), UNKNOWN);
            c.due("lose(" + box + ")", x.lose(box), UNKNOWN);
        }
        c.due("put(4, 2, 0)", x.put(4, 2, 0), 1);
        c.due("take(4, 2)", x.take(4, 2), 0);
    }

    private void missingAtFirst() {
        c.part("BOXES are missing (at first): NULL");
        SownSeeds x = new SownSeeds();
        c.due("count(8)", x.count(8), 0);
        for (int box = 0; box < 5; box++) {
            c.due("put(" + box + ", 0, 1)", x.put(box, 0, 1), NULL);
            c.due("take(" + box + ", 0)", x.take(box, 0), NULL);
            c.due("spill(" + box + ")", x.spill(box), NULL);
            c.due("deep(" + box + ", 0)", x.deep(box, 0), NULL);
            c.due("alike(" + box + ", 0)", x.alike(box, 0), NULL);
            c.due("lose(" + box + ")", x.lose(box), NULL);
        }
    }

    private void roomFrom0To4() {
        c.part("hold up to so many things as they were made for (0 to 4)");
        for (int room = 0; room <= 4; room++) {
            SownSeeds x = withBoxes(room);
            for (int n = 1; n <= room; n++) {
                c.due("put(4, 0, 1) of " + room, x.put(4, 0, 1), n);
            }
            c.due("put(4, 0, 1), one more than " + room, x.put(4, 0, 1), ROOM);
            c.due("put(4, 1, 1), one more than " + room, x.put(4, 1, 1), ROOM);
            c.due("put(4, 2, 1), one more than " + room, x.put(4, 2, 1), ROOM);
            c.due("lose(4)", x.lose(4), room);
        }
    }

    private void inOneOtherAtMost() {
        c.part("A BOX lies in one other one at most");
        SownSeeds x = withBoxes(4);
        x.put(0, 2, 1);
        c.due("put(2, 2, 1)", x.put(2, 2, 1), NOT);
        c.due("put(0, 2, 1)", x.put(0, 2, 1), NOT);
        c.due("put(1, 2, 1)", x.put(1, 2, 1), NOT);
        c.due("deep(2, 3)", x.deep(2, 3), 0);
        c.due("put(0, 2, 2), others in the same one", x.put(0, 2, 2), 2);
        c.due("deep(0, 3)", x.deep(0, 3), 0b00110);
    }

    // ---- promises 24 to 31

    private void boxSizes() {
        c.part("promise 24: for n things; OUTSIDE (n above 4); SIZE (fewer than none)");
        SownSeeds x = new SownSeeds();
        c.due("box(0, 0)", x.box(0, 0), 0);
        c.due("box(0, 4)", x.box(0, 4), 4);
        c.due("box(1, 5)", x.box(1, 5), OUTSIDE);
        c.due("box(1, most)", x.box(1, MOST), OUTSIDE);
        c.due("box(1, -1)", x.box(1, -1), SIZE);
        c.due("box(1, least)", x.box(1, LEAST), SIZE);
        c.due("count(8)", x.count(8), 0b00001);
        c.due("box(5, 5), of UNKNOWN and OUTSIDE", x.box(5, 5), UNKNOWN);
        c.due("box(-1, -1), of UNKNOWN and SIZE", x.box(-1, -1), UNKNOWN);
    }

    private void boxInPlaceOfAnOldOne() {
        c.part("promise 24: an old one is gone from where it lay; BOXES that lay in it lie in none");
        SownSeeds x = withBoxes(4);
        x.put(0, 0, 7);
        x.put(0, 2, 1);
        x.put(0, 0, 8);
        x.put(1, 2, 2);
        x.put(1, 0, 9);
        x.put(1, 2, 3);
        c.due("box(1, 1)", x.box(1, 1), 1);
        c.due("deep(0, 3)", x.deep(0, 3), 0);
        c.due("deep(1, 0)", x.deep(1, 0), 0);
        c.due("take(0, 0), what lay on it", x.take(0, 0), 50008);
        c.due("take(0, 0), what lay below it", x.take(0, 0), 50007);
        c.due("take(0, 0)", x.take(0, 0), EMPTY);
        c.due("put(4, 2, 1)", x.put(4, 2, 1), 1);
        c.due("put(4, 2, 2)", x.put(4, 2, 2), 2);
        c.due("put(4, 2, 3)", x.put(4, 2, 3), 3);
        c.due("put(1, 0, 1)", x.put(1, 0, 1), 1);
        c.due("put(1, 0, 1), the room of the new one", x.put(1, 0, 1), ROOM);
    }

    private void boxRefusedLeavesTheOldOne() {
        c.part("promise 24: a refused one leaves the old one as it was");
        SownSeeds x = withBoxes(2);
        x.put(0, 2, 1);
        x.put(1, 0, 9);
        c.due("box(1, 5)", x.box(1, 5), OUTSIDE);
        c.due("box(1, -1)", x.box(1, -1), SIZE);
        c.due("deep(0, 3)", x.deep(0, 3), 0b00010);
        c.due("deep(0, 1)", x.deep(0, 1), 50009);
        c.due("put(1, 0, 1)", x.put(1, 0, 1), 2);
        c.due("put(1, 0, 1)", x.put(1, 0, 1), ROOM);
    }

    private void putUnknown() {
        c.part("promise 25: UNKNOWN (the BOX; by what 1 the HOUSE, by 2 BOX v)");
        SownSeeds x = withBoxes(4);
        c.due("put(5, 0, 1)", x.put(5, 0, 1), UNKNOWN);
        c.due("put(0, 1, 6)", x.put(0, 1, 6), UNKNOWN);
        c.due("put(0, 1, -1)", x.put(0, 1, -1), UNKNOWN);
        c.due("put(0, 1, least)", x.put(0, 1, LEAST), UNKNOWN);
        c.due("put(0, 2, 5)", x.put(0, 2, 5), UNKNOWN);
        c.due("put(0, 2, -1)", x.put(0, 2, -1), UNKNOWN);
        c.due("put(0, 2, most)", x.put(0, 2, MOST), UNKNOWN);
        c.due("put(0, 0, 6), no HOUSE", x.put(0, 0, 6), 1);
        c.due("put(0, 1, 5), no BOX", x.put(0, 1, 5), 2);
        c.due("put(5, 3, 0), of UNKNOWN and OUTSIDE", x.put(5, 3, 0), UNKNOWN);
        c.due("put(5, 0, 10000), of UNKNOWN and OUTSIDE", x.put(5, 0, 10000), UNKNOWN);
        x.lose(1);
        c.due("put(1, 1, 6), of UNKNOWN and NULL", x.put(1, 1, 6), UNKNOWN);
        c.due("put(1, 2, 5), of UNKNOWN and NULL", x.put(1, 2, 5), UNKNOWN);
        x.box(2, 0);
        c.due("put(2, 1, 6), of UNKNOWN and ROOM", x.put(2, 1, 6), UNKNOWN);
        c.due("put(2, 2, 5), of UNKNOWN and ROOM", x.put(2, 2, 5), UNKNOWN);
    }

    private void putOutside() {
        c.part("promise 25: OUTSIDE (what; the number)");
        SownSeeds x = withBoxes(4);
        c.due("put(0, -1, 0)", x.put(0, -1, 0), OUTSIDE);
        c.due("put(0, 3, 0)", x.put(0, 3, 0), OUTSIDE);
        c.due("put(0, least, 0)", x.put(0, LEAST, 0), OUTSIDE);
        c.due("put(0, most, 99)", x.put(0, MOST, 99), OUTSIDE);
        c.due("put(0, 0, 10000)", x.put(0, 0, 10000), OUTSIDE);
        c.due("put(0, 0, -10000)", x.put(0, 0, -10000), OUTSIDE);
        c.due("put(0, 0, least)", x.put(0, 0, LEAST), OUTSIDE);
        c.due("put(0, 0, most)", x.put(0, 0, MOST), OUTSIDE);
        x.lose(1);
        c.due("put(1, 3, 0), of OUTSIDE and NULL", x.put(1, 3, 0), OUTSIDE);
        c.due("put(1, 0, 10000), of OUTSIDE and NULL", x.put(1, 0, 10000), OUTSIDE);
        x.box(2, 0);
        c.due("put(2, 3, 0), of OUTSIDE and ROOM", x.put(2, 3, 0), OUTSIDE);
        c.due("put(2, 0, -10000), of OUTSIDE and ROOM", x.put(2, 0, -10000), OUTSIDE);
        c.due("deep(0, 0)", x.deep(0, 0), 0);
    }

    private void putNumbers() {
        c.part("promise 25: A number v (-9999 .. 9999)");
        SownSeeds x = withBoxes(4);
        c.due("put(0, 0, -9999)", x.put(0, 0, -9999), 1);
        c.due("put(0, 0, 9999)", x.put(0, 0, 9999), 2);
        c.due("put(0, 0, -1)", x.put(0, 0, -1), 3);
        c.due("put(0, 0, 0)", x.put(0, 0, 0), 4);
        c.due("take(0, 0)", x.take(0, 0), 50000);
        c.due("take(0, 0)", x.take(0, 0), 49999);
        c.due("take(0, 0)", x.take(0, 0), 59999);
        c.due("take(0, 0)", x.take(0, 0), 40001);
    }

    private void putNot() {
        c.part("promise 25: NOT: BOX v lies in another one (or in this one)");
        SownSeeds x = nested(1);
        c.due("put(0, 2, 1), of NOT and ROOM", x.put(0, 2, 1), NOT);
        c.due("put(0, 2, 2), of NOT and ROOM", x.put(0, 2, 2), NOT);
        c.due("put(4, 2, 1), of NOT and LOOP", x.put(4, 2, 1), NOT);
        c.due("put(4, 2, 4), of NOT and LOOP", x.put(4, 2, 4), NOT);
        x.lose(0);
        c.due("put(0, 2, 2), of NOT and NULL", x.put(0, 2, 2), NOT);
        c.due("put(4, 2, 1), in none now", x.put(4, 2, 1), LOOP);
    }

    private void putNull() {
        c.part("promise 25: NULL (either)");
        SownSeeds x = new SownSeeds();
        x.box(0, 1);
        c.due("put(1, 2, 0), missing", x.put(1, 2, 0), NULL);
        c.due("put(0, 2, 1), missing", x.put(0, 2, 1), NULL);
        c.due("put(1, 2, 2), both missing", x.put(1, 2, 2), NULL);
        c.due("put(1, 2, 1), of NULL and LOOP", x.put(1, 2, 1), NULL);
        c.due("put(1, 1, 0)", x.put(1, 1, 0), NULL);
        c.due("put(0, 1, 1), no BOX", x.put(0, 1, 1), 1);
        c.due("put(0, 2, 1), of NULL and ROOM", x.put(0, 2, 1), NULL);
        c.due("count(8)", x.count(8), 0b00001);
    }

    private void putRoom() {
        c.part("promise 25: ROOM");
        SownSeeds x = withBoxes(0);
        c.due("put(0, 0, 1)", x.put(0, 0, 1), ROOM);
        c.due("put(0, 1, 1)", x.put(0, 1, 1), ROOM);
        c.due("put(0, 2, 1)", x.put(0, 2, 1), ROOM);
        c.due("put(0, 2, 0), of ROOM and LOOP", x.put(0, 2, 0), ROOM);
        x.box(0, 1);
        x.put(0, 0, 1);
        x.take(0, 0);
        c.due("put(0, 0, 2), taken out again", x.put(0, 0, 2), 1);
    }

    private void putLoop() {
        c.part("promise 25: LOOP (it would lie in itself, through others or not)");
        SownSeeds x = nested(2);
        c.due("put(4, 2, 0), through all", x.put(4, 2, 0), LOOP);
        c.due("put(3, 2, 0), through two", x.put(3, 2, 0), LOOP);
        c.due("put(1, 2, 0), through one", x.put(1, 2, 0), LOOP);
        c.due("put(0, 2, 0), itself", x.put(0, 2, 0), LOOP);
        c.due("deep(0, 4)", x.deep(0, 4), 4);
        c.due("take(3, 2)", x.take(3, 2), 4);
        c.due("put(4, 2, 0), not any more", x.put(4, 2, 0), 1);
        c.due("put(3, 2, 4), the other way about", x.put(3, 2, 4), LOOP);
        c.due("deep(4, 3)", x.deep(4, 3), 0b01111);
    }

    private void putFirstInOrder() {
        c.part("of several the first in this order");
        SownSeeds x = withBoxes(1);
        x.put(0, 2, 1);
        x.put(1, 0, 1);
        c.due("put(1, 2, 0), of ROOM and LOOP", x.put(1, 2, 0), ROOM);
        x.lose(4);
        c.due("put(1, 2, 4), of NULL and ROOM", x.put(1, 2, 4), NULL);
        x.take(1, 0);
        c.due("put(1, 2, 0)", x.put(1, 2, 0), LOOP);
        c.due("spill(1), of EMPTY and CAST", x.spill(1), EMPTY);
        c.due("take(1, 2), of EMPTY and CAST", x.take(1, 2), EMPTY);
    }

    private void takeRefuses() {
        c.part("promise 26: UNKNOWN; OUTSIDE");
        SownSeeds x = new SownSeeds();
        x.box(0, 4);
        c.due("take(0, -1), of OUTSIDE and EMPTY", x.take(0, -1), OUTSIDE);
        c.due("take(0, 3), of OUTSIDE and EMPTY", x.take(0, 3), OUTSIDE);
        c.due("take(1, 3), of OUTSIDE and NULL", x.take(1, 3), OUTSIDE);
        c.due("take(0, least)", x.take(0, LEAST), OUTSIDE);
        c.due("take(0, most)", x.take(0, MOST), OUTSIDE);
        x.put(0, 0, 1);
        c.due("take(0, 3), of OUTSIDE and CAST", x.take(0, 3), OUTSIDE);
        c.due("take(5, 3), of UNKNOWN and OUTSIDE", x.take(5, 3), UNKNOWN);
        c.due("take(-1, -1), of UNKNOWN and OUTSIDE", x.take(-1, -1), UNKNOWN);
    }

    private void takeNullEmptyCast() {
        c.part("promise 26: NULL; EMPTY; CAST (something else lies on top)");
        SownSeeds x = new SownSeeds();
        for (int what = 0; what <= 2; what++) {
            c.due("take(0, " + what + ")", x.take(0, what), NULL);
        }
        x.box(0, 4);
        x.box(1, 0);
        for (int what = 0; what <= 2; what++) {
            c.due("take(0, " + what + ")", x.take(0, what), EMPTY);
            c.due("take(1, " + what + "), no room", x.take(1, what), EMPTY);
        }
        for (int what = 0; what <= 2; what++) {
            x.put(0, what, 1);
            for (int as = 0; as <= 2; as++) {
                if (as != what) {
                    c.due("take(0, " + as + "), of what " + what, x.take(0, as), CAST);
                }
            }
        }
        c.due("deep(0, 0)", x.deep(0, 0), 1);
        c.due("deep(0, 2)", x.deep(0, 2), 0b00010);
        c.due("deep(0, 3)", x.deep(0, 3), 0b00010);
    }

    private void takeOfEach() {
        c.part("promise 26: that number, and 50000 more; the HOUSE; the BOX");
        SownSeeds x = withBoxes(4);
        x.put(0, 0, -9999);
        x.put(0, 1, 5);
        x.put(0, 2, 4);
        x.put(0, 1, 0);
        c.due("take(0, 1)", x.take(0, 1), 0);
        c.due("take(0, 2)", x.take(0, 2), 4);
        c.due("take(0, 1)", x.take(0, 1), 5);
        c.due("take(0, 0)", x.take(0, 0), 40001);
        c.due("take(0, 0)", x.take(0, 0), EMPTY);
    }

    private void takenBoxLiesInNone() {
        c.part("promise 26: the BOX, which lies in none then");
        SownSeeds x = withBoxes(4);
        x.put(0, 2, 1);
        x.put(1, 0, 3);
        c.due("take(0, 2)", x.take(0, 2), 1);
        c.due("count(8), it is there", x.count(8), 0b11111);
        c.due("deep(1, 1), with what it holds", x.deep(1, 1), 50003);
        c.due("put(2, 2, 1)", x.put(2, 2, 1), 1);
        c.due("take(2, 2)", x.take(2, 2), 1);
        c.due("put(1, 2, 0), no LOOP", x.put(1, 2, 0), 2);
    }

    private void spillNullEmptyCast() {
        c.part("promise 27: UNKNOWN; NULL; EMPTY; CAST");
        SownSeeds x = new SownSeeds();
        c.due("spill(-1)", x.spill(-1), UNKNOWN);
        c.due("spill(5)", x.spill(5), UNKNOWN);
        c.due("spill(0)", x.spill(0), NULL);
        x.box(0, 4);
        x.box(1, 4);
        c.due("spill(0)", x.spill(0), EMPTY);
        x.put(0, 2, 1);
        x.put(0, 0, 1);
        c.due("spill(0), a number on top", x.spill(0), CAST);
        x.take(0, 0);
        x.put(0, 1, 1);
        c.due("spill(0), a HOUSE on top", x.spill(0), CAST);
        c.due("deep(0, 3)", x.deep(0, 3), 0b00010);
        x.take(0, 1);
        c.due("spill(0)", x.spill(0), 0);
    }

    private void spillRoom() {
        c.part("promise 27: ROOM");
        SownSeeds x = new SownSeeds();
        x.box(0, 2);
        x.box(1, 4);
        x.put(1, 0, 1);
        x.put(1, 0, 2);
        x.put(1, 0, 3);
        x.put(0, 2, 1);
        c.due("spill(0), 3 for 2", x.spill(0), ROOM);
        c.due("deep(0, 3)", x.deep(0, 3), 0b00010);
        c.due("deep(1, 0)", x.deep(1, 0), 3);
        c.due("put(0, 2, 1), it still lies there", x.put(0, 2, 1), NOT);
        x.take(1, 0);
        c.due("spill(0), 2 for 2", x.spill(0), 2);
        SownSeeds full = new SownSeeds();
        full.box(0, 4);
        full.box(1, 4);
        full.put(0, 0, 9);
        for (int n = 0; n < 4; n++) {
            full.put(1, 0, n);
        }
        full.put(0, 2, 1);
        c.due("spill(0), 1 and 4 for 4", full.spill(0), ROOM);
        full.take(1, 0);
        c.due("spill(0), 1 and 3 for 4", full.spill(0), 4);
    }

    private void spillAsItLay() {
        c.part("promise 27: what it holds lies in its place, as it lay there (it holds nothing then)");
        SownSeeds x = withBoxes(4);
        x.put(1, 0, 1);
        x.put(1, 1, 2);
        x.put(1, 0, 3);
        x.put(0, 0, 9);
        x.put(0, 2, 1);
        c.due("spill(0)", x.spill(0), 4);
        c.due("take(1, 0)", x.take(1, 0), EMPTY);
        c.due("take(0, 0)", x.take(0, 0), 50003);
        c.due("take(0, 1)", x.take(0, 1), 2);
        c.due("take(0, 0)", x.take(0, 0), 50001);
        c.due("take(0, 0)", x.take(0, 0), 50009);
        c.due("take(0, 0)", x.take(0, 0), EMPTY);
        c.part("promise 27: The BOX comes out");
        c.due("put(2, 2, 1), it lies in none", x.put(2, 2, 1), 1);
        for (int n = 1; n <= 4; n++) {
            c.due("put(1, 0, 1), its room is as it was", x.put(1, 0, 1), n);
        }
    }

    private void spillOfNothing() {
        c.part("promise 27: The BOX on top holds nothing");
        SownSeeds x = withBoxes(1);
        x.put(0, 2, 1);
        c.due("spill(0)", x.spill(0), 0);
        c.due("take(0, 2)", x.take(0, 2), EMPTY);
        c.due("put(1, 2, 0), no LOOP", x.put(1, 2, 0), 1);
    }

    private void spilledBoxes() {
        c.part("promise 27: BOXES that it holds lie in the outer one then");
        SownSeeds x = nested(2);
        c.due("spill(0)", x.spill(0), 1);
        c.due("deep(0, 3)", x.deep(0, 3), 0b11100);
        c.due("deep(0, 4)", x.deep(0, 4), 3);
        c.due("put(1, 2, 2), it lies in 0", x.put(1, 2, 2), NOT);
        c.due("put(2, 2, 0), LOOP through 0", x.put(2, 2, 0), LOOP);
        c.due("put(4, 2, 1), no LOOP any more", x.put(4, 2, 1), 1);
        c.due("take(0, 2)", x.take(0, 2), 2);
        c.due("put(1, 2, 0)", x.put(1, 2, 0), 1);
    }

    private void deepRefuses() {
        c.part("promise 28: UNKNOWN; OUTSIDE; NULL");
        SownSeeds x = new SownSeeds();
        c.due("deep(0, -1), of OUTSIDE and NULL", x.deep(0, -1), OUTSIDE);
        c.due("deep(0, 5), of OUTSIDE and NULL", x.deep(0, 5), OUTSIDE);
        c.due("deep(5, 5), of UNKNOWN and OUTSIDE", x.deep(5, 5), UNKNOWN);
        c.due("deep(-1, -1), of UNKNOWN and OUTSIDE", x.deep(-1, -1), UNKNOWN);
        for (int what = 0; what <= 4; what++) {
            c.due("deep(0, " + what + ")", x.deep(0, what), NULL);
        }
        x.box(0, 1);
        c.due("deep(0, -1)", x.deep(0, -1), OUTSIDE);
        c.due("deep(0, 5)", x.deep(0, 5), OUTSIDE);
        c.due("deep(0, least)", x.deep(0, LEAST), OUTSIDE);
        c.due("deep(0, most)", x.deep(0, MOST), OUTSIDE);
    }

    private void deepOfNothing() {
        c.part("promise 28: a BOX that holds nothing");
        SownSeeds x = withBoxes(0);
        int[] want = {0, 50000, 0, 0, 0};
        for (int what = 0; what <= 4; what++) {
            c.due("deep(0, " + what + ")", x.deep(0, what), want[what]);
        }
    }

    private void deepNumbersAndSums() {
        c.part("promise 28: how many numbers (what 0), the sum of these, and 50000 more (1)");
        // As many as there can be: 4 in one alone, 3 beside each BOX in the others.
        SownSeeds x = nested(4);
        for (int n = 0; n < 3; n++) {
            for (int box = 0; box < 5; box++) {
                x.put(box, 0, -9999);
            }
        }
        x.put(4, 0, -9999);
        c.due("deep(0, 0)", x.deep(0, 0), 16);
        c.due("deep(0, 1), below nothing", x.deep(0, 1), 50000 - 16 * 9999);
        c.due("deep(4, 0)", x.deep(4, 0), 4);
        c.due("deep(4, 1)", x.deep(4, 1), 50000 - 4 * 9999);
        SownSeeds y = withBoxes(4);
        y.put(0, 0, 9999);
        y.put(0, 0, -9999);
        y.put(0, 0, 0);
        y.put(0, 1, 5);
        c.due("deep(0, 0), a HOUSE is no number", y.deep(0, 0), 3);
        c.due("deep(0, 1)", y.deep(0, 1), 50000);
    }

    private void deepHouses() {
        c.part("promise 28: HOUSES (2, bits), through and through");
        SownSeeds x = c.told("board 5");
        x.box(0, 4);
        x.box(1, 4);
        x.put(1, 1, 9);
        x.put(0, 1, 0);
        x.put(0, 2, 1);
        x.put(0, 1, 9);
        x.put(0, 0, 3);
        c.due("deep(0, 2)", x.deep(0, 2), 0b1000000001);
        c.due("deep(1, 2)", x.deep(1, 2), 0b1000000000);
    }

    private void deepBoxes() {
        c.part("promise 28: BOXES in it (3, bits), through and through");
        SownSeeds x = nested(2);
        c.due("deep(0, 3)", x.deep(0, 3), 0b11110);
        c.due("deep(3, 3)", x.deep(3, 3), 0b10000);
        c.due("deep(4, 3), not itself", x.deep(4, 3), 0);
        x.lose(2);
        c.due("deep(0, 3)", x.deep(0, 3), 0b00010);
        c.due("deep(3, 3)", x.deep(3, 3), 0b10000);
    }

    private void deepDepth() {
        c.part("promise 28: how deep BOXES lie in it (4; 0: none)");
        SownSeeds x = nested(2);
        for (int box = 0; box < 5; box++) {
            c.due("deep(" + box + ", 4)", x.deep(box, 4), 4 - box);
        }
        SownSeeds wide = withBoxes(4);
        for (int box = 1; box < 5; box++) {
            wide.put(0, 2, box);
        }
        c.due("deep(0, 4), side by side", wide.deep(0, 4), 1);
        wide.take(0, 2);
        wide.put(1, 2, 4);
        c.due("deep(0, 4), the deepest", wide.deep(0, 4), 2);
        c.due("deep(2, 4)", wide.deep(2, 4), 0);
    }

    private void alikeRefuses() {
        c.part("promise 29: UNKNOWN; NULL (either)");
        SownSeeds x = new SownSeeds();
        c.due("alike(0, 5), of UNKNOWN and NULL", x.alike(0, 5), UNKNOWN);
        c.due("alike(5, 0), of UNKNOWN and NULL", x.alike(5, 0), UNKNOWN);
        c.due("alike(5, 5)", x.alike(5, 5), UNKNOWN);
        c.due("alike(0, 1), both missing", x.alike(0, 1), NULL);
        x.box(0, 1);
        c.due("alike(0, 1)", x.alike(0, 1), NULL);
        c.due("alike(1, 0)", x.alike(1, 0), NULL);
        c.due("alike(1, 1)", x.alike(1, 1), NULL);
    }

    private void alikeOneAndTheSame() {
        c.part("promise 29: or one and the same");
        SownSeeds x = nested(2);
        for (int box = 0; box < 5; box++) {
            x.put(box, 0, box);
            c.due("alike(" + box + ", " + box + ")", x.alike(box, box), 1);
        }
    }

    private void alikeOneOnTheOther() {
        c.part("promise 29: hold the same, one on the other");
        SownSeeds x = withBoxes(4);
        c.due("alike(0, 1), nothing", x.alike(0, 1), 1);
        x.put(0, 0, 1);
        c.due("alike(0, 1), one and nothing", x.alike(0, 1), 0);
        c.due("alike(1, 0), nothing and one", x.alike(1, 0), 0);
        x.put(1, 1, 1);
        c.due("alike(0, 1), a number and a HOUSE", x.alike(0, 1), 0);
        x.take(1, 1);
        x.put(1, 0, 2);
        c.due("alike(0, 1), 1 and 2", x.alike(0, 1), 0);
        x.put(0, 0, 2);
        x.put(1, 0, 1);
        c.due("alike(0, 1), the other way about", x.alike(0, 1), 0);
        x.box(1, 4);
        x.put(1, 0, 1);
        c.due("alike(0, 1), one more on it", x.alike(0, 1), 0);
        x.put(1, 0, 2);
        c.due("alike(0, 1)", x.alike(0, 1), 1);
        x.put(0, 1, 3);
        x.put(1, 2, 3);
        c.due("alike(0, 1), HOUSE 3 and BOX 3", x.alike(0, 1), 0);
    }

    private void alikeByWhatTheyHold() {
        c.part("promise 29: BOXES in them likewise (by what they hold, not by their numbers, their room)");
        SownSeeds x = new SownSeeds();
        x.box(0, 1);
        x.box(1, 4);
        x.box(2, 1);
        x.box(3, 2);
        x.put(0, 2, 2);
        x.put(1, 2, 3);
        c.due("alike(0, 1)", x.alike(0, 1), 1);
        x.put(2, 0, 5);
        c.due("alike(0, 1)", x.alike(0, 1), 0);
        c.due("alike(1, 0)", x.alike(1, 0), 0);
        x.put(3, 0, 5);
        c.due("alike(0, 1)", x.alike(0, 1), 1);
        x.put(3, 0, 6);
        c.due("alike(0, 1), deeper down", x.alike(0, 1), 0);
        // A BOX and what lies in it.
        SownSeeds y = nested(1);
        c.due("alike(0, 1)", y.alike(0, 1), 0);
        c.due("alike(3, 4)", y.alike(3, 4), 0);
        y.take(1, 2);
        y.put(2, 0, 7);
        c.due("alike(0, 3), 1 in 0 and 4 in 3", y.alike(0, 3), 1);
    }

    private void loseRefuses() {
        c.part("promise 30: UNKNOWN; NULL");
        SownSeeds x = new SownSeeds();
        c.due("lose(-1)", x.lose(-1), UNKNOWN);
        c.due("lose(5)", x.lose(5), UNKNOWN);
        c.due("lose(4)", x.lose(4), NULL);
        x.box(4, 0);
        c.due("lose(4)", x.lose(4), 0);
        c.due("lose(4)", x.lose(4), NULL);
    }

    private void loseFromTheMiddle() {
        c.part("promise 30: it is gone from where it lay, BOXES that lay in it lie in none");
        SownSeeds x = nested(4);
        x.put(0, 0, 8);
        x.put(1, 0, 9);
        c.due("lose(1)", x.lose(1), 2);
        c.due("count(8)", x.count(8), 0b11101);
        c.due("deep(0, 3)", x.deep(0, 3), 0);
        c.due("deep(2, 3)", x.deep(2, 3), 0b11000);
        c.due("take(0, 0)", x.take(0, 0), 50008);
        c.due("take(0, 0)", x.take(0, 0), EMPTY);
        c.due("put(0, 2, 2)", x.put(0, 2, 2), 1);
        c.due("put(0, 2, 1)", x.put(0, 2, 1), NULL);
        x.box(1, 1);
        c.due("deep(1, 3), a new one holds nothing", x.deep(1, 3), 0);
        c.due("put(0, 2, 1), and lies in none", x.put(0, 2, 1), 2);
    }

    private void loseAll() {
        c.part("promise 30: how many it held");
        SownSeeds x = withBoxes(4);
        for (int n = 0; n < 4; n++) {
            x.put(0, 0, n);
        }
        c.due("lose(0)", x.lose(0), 4);
        x.put(1, 2, 2);
        x.put(2, 0, 1);
        x.put(2, 0, 1);
        c.due("lose(1), not what those hold that it held", x.lose(1), 1);
        c.due("lose(2)", x.lose(2), 2);
    }

    private void countOutside() {
        c.part("promise 31: OUTSIDE");
        SownSeeds x = new SownSeeds();
        c.due("count(-1)", x.count(-1), OUTSIDE);
        c.due("count(11)", x.count(11), OUTSIDE);
        c.due("count(least)", x.count(LEAST), OUTSIDE);
        c.due("count(most)", x.count(MOST), OUTSIDE);
    }

    private void countOfEach() {
        c.part("promise 31: 0 HOUSES .. 10 letters of THE TEXT, at their least and at their most");
        SownSeeds x = c.told("board 2;seeds 0 0;seeds 1 0;seeds 2 0;seeds 3 0");
        int[] least = {4, 0, 0, 0, 0, 0, 0, 0, 0, 0, 0};
        for (int what = 0; what <= 10; what++) {
            c.due("count(" + what + ")", x.count(what), least[what]);
        }
        SownSeeds y = c.told("board 5;turn 1;barn 0 99;barn 1 99");
        for (int house = 0; house < 10; house++) {
            for (int n = 0; n < 4; n++) {
                y.drop(house, 30);
            }
        }
        for (int n = 0; n < 6; n++) {
            y.seen(0, 0, 0, 0);
        }
        for (int box = 0; box < 5; box++) {
            y.box(box, 0);
        }
        for (int n = 0; n < 200; n++) {
            y.write(0);
        }
        int[] most = {10, 0, 1, 99, 99, 990, 0b1111100000, 6, 0b11111, 8, 200};
        for (int what = 0; what <= 10; what++) {
            c.due("count(" + what + ")", y.count(what), most[what]);
        }
    }
}
