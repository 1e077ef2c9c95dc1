/**
 * The edges that the document names of MOVES and KINDS, and those of promises 8 to 13:
 * a test for each sentence, which its part tells.
 */
public final class EdgesOfMovesTest {
    private static final int UNKNOWN = -2, OUTSIDE = -3, NOT = -4, FULL = -5;
    private static final int LEAST = Integer.MIN_VALUE, MOST = Integer.MAX_VALUE;

    private final Checks c = new Checks();

    public static void main(String[] args) {
        EdgesOfMovesTest t = new EdgesOfMovesTest();
        t.goesIfOneIsLifted();
        t.ofTheSideWhoseTurnItIs();
        t.roundAndRound();
        t.passingOverWhereItBegan();
        t.passingOverThoseThatTakeNone();
        t.withTheSeedsThatAreInItThen();
        t.noneOfTheOthersTakes();
        t.noneIsLeftForTheBarn();
        t.yieldsWhereTheLastFalls();
        t.theLastFallsOnOnesOwn();
        t.theHousesAheadLikewise();
        t.asLongAsItYields();
        t.asLongAsItIsOfTheOtherSide();
        t.nowhereIfSeedsWereLeft();
        t.barnsHaveNoEnd();
        t.turnOfTheOther();
        t.overIfNoMoveGoes();
        t.plain();
        t.deep();
        t.rich();
        t.barred();
        t.mean();
        t.droppedTo99AtMost();
        t.swappedKindsAlone();
        t.moveUnknown();
        t.moveNot();
        t.moveFull();
        t.dropRefuses();
        t.dropNot();
        t.swapUnknown();
        t.swapNot();
        t.undoNone();
        t.undoTheLast8();
        t.undoOfEach();
        t.keepUnknown();
        t.keepOverAnOldOne();
        t.backUnknown();
        t.backNot();
        t.backUndoesNothing();
        t.c.end();
    }

    // Drops so many SEEDS into a HOUSE that it has the number wanted, which is more than it has.
    private void fill(SownSeeds x, int house, int wanted) {
        for (int n = 0; n < 4 && x.house(house, 1) < wanted; n++) {
            x.drop(house, Math.min(30, wanted - x.house(house, 1)));
        }
        c.due("house(" + house + ", 1)", x.house(house, 1), wanted);
    }

    // ---- 2

    private void goesIfOneIsLifted() {
        c.part("it GOES, if that is 1 or more");
        SownSeeds x = c.told("board 5;seeds 0 0;seeds 1 1;deep 2;seeds 2 1;deep 3;seeds 3 2;deep 4;seeds 4 0");
        c.due("count(6)", x.count(6), 0b01010);
        int[] want = {NOT, 0, NOT, 0, NOT};
        for (int house = 0; house < 5; house++) {
            c.due("brings(" + house + ")", x.brings(house), want[house]);
        }
        SownSeeds y = c.told("board 5;rich 0;seeds 0 0;rich 1;seeds 1 1;mean 2;seeds 2 0;mean 3;seeds 3 1;barred 4;seeds 4 30");
        c.due("count(6)", y.count(6), 0b01010);
        c.due("move(0)", y.move(0), NOT);
        c.due("move(2)", y.move(2), NOT);
        c.due("move(4)", y.move(4), NOT);
        c.due("move(3)", y.move(3), 0);
    }

    private void ofTheSideWhoseTurnItIs() {
        c.part("A MOVE from a HOUSE of the SIDE whose TURN it is");
        for (int h = 2; h <= 5; h++) {
            SownSeeds x = c.told("board " + h);
            c.due("move, the first of SIDE 1", x.move(h), NOT);
            c.due("move, the last of SIDE 1", x.move(2 * h - 1), NOT);
            c.holds("move, the last of SIDE 0", x.move(h - 1) >= 0);
            c.due("move, the first of SIDE 0", x.move(0), NOT);
            c.holds("move, the last of SIDE 1", x.move(2 * h - 1) >= 0);
        }
    }

    private void roundAndRound() {
        c.part("one into the next HOUSE, and so on, round and round");
        SownSeeds x = c.told("board 2;seeds 0 30");
        c.due("move(0)", x.move(0), 0);
        c.seeds(x, 0, 14, 14, 14);
        SownSeeds y = c.told("board 5;turn 1;seeds 9 30");
        c.due("move(9)", y.move(9), 0);
        c.seeds(y, 8, 8, 8, 7, 7, 7, 7, 7, 7, 0);
    }

    private void passingOverWhereItBegan() {
        c.part("passing over the HOUSE it began from");
        for (int h = 2; h <= 5; h++) {
            int others = 2 * h - 1;
            SownSeeds once = c.told("board " + h + ";seeds 0 " + others);
            c.due("move(0), one for each other", once.move(0), 0);
            c.due("house(0, 1)", once.house(0, 1), 0);
            c.due("house(1, 1)", once.house(1, 1), 5);
            c.due("the last", once.house(others, 1), 5);
            SownSeeds more = c.told("board " + h + ";seeds 0 " + (others + 1));
            c.due("move(0), one more", more.move(0), 0);
            c.due("house(0, 1)", more.house(0, 1), 0);
            c.due("house(1, 1)", more.house(1, 1), 6);
            c.due("house(2, 1)", more.house(2, 1), 5);
        }
        SownSeeds deep = c.told("board 2;deep 0;seeds 0 30");
        c.due("move(0), DEEP", deep.move(0), 0);
        c.seeds(deep, 1, 14, 14, 13);
        // A MEAN one that has 2 left would take one, but it began there.
        SownSeeds mean = c.told("board 2;mean 0;seeds 0 4;barred 1;barred 2;barred 3");
        c.due("move(0), MEAN", mean.move(0), 2);
        c.seeds(mean, 2, 4, 4, 4);
    }

    private void passingOverThoseThatTakeNone() {
        c.part("and each that by KIND does not TAKE one");
        SownSeeds x = c.told("board 5;seeds 0 3;barred 1;mean 2;seeds 2 3;barred 4;seeds 4 0;mean 5;seeds 5 30");
        c.due("move(0)", x.move(0), 0);
        c.seeds(x, 0, 4, 3, 5, 0, 30, 5, 5, 4, 4);
        SownSeeds full = c.told("board 2;seeds 0 2;rich 1;deep 2");
        fill(full, 1, 99);
        fill(full, 2, 99);
        c.due("move(0)", full.move(0), 0);
        c.seeds(full, 0, 99, 99, 6);
    }

    private void withTheSeedsThatAreInItThen() {
        c.part("with the SEEDS that are in it then");
        // The MEAN one takes two, until it has 3; the PLAIN one of 98 takes one.
        SownSeeds x = c.told("board 2;seeds 0 8;mean 1;seeds 1 1");
        fill(x, 2, 98);
        c.due("move(0)", x.move(0), 0);
        c.seeds(x, 0, 3, 99, 9);
        // Whether it is passed over is told anew each time round.
        SownSeeds y = c.told("board 2;seeds 0 4;mean 1;seeds 1 2;mean 2;seeds 2 2;mean 3;seeds 3 1");
        c.due("move(0)", y.move(0), 0);
        c.seeds(y, 0, 3, 3, 3);
    }

    private void noneOfTheOthersTakes() {
        c.part("if none of all the others TAKES one, all SEEDS that are left go to the BARN of that SIDE");
        SownSeeds all = c.told("board 2;barred 1;barred 2;barred 3;seeds 0 30");
        c.due("move(0), all of them", all.move(0), 30);
        c.seeds(all, 0, 4, 4, 4);
        c.due("count(3)", all.count(3), 30);
        c.due("count(4)", all.count(4), 0);
        SownSeeds some = c.told("board 2;turn 1;barred 0;mean 1;seeds 1 1;mean 3;seeds 3 3;seeds 2 7");
        c.due("move(2), behind two", some.move(2), 5);
        c.seeds(some, 4, 3, 0, 3);
        c.due("count(3)", some.count(3), 0);
        c.due("count(4)", some.count(4), 5);
        SownSeeds full = c.told("board 2;seeds 0 5;barred 2;barred 3");
        fill(full, 1, 97);
        c.due("move(0), until 99", full.move(0), 3);
        c.seeds(full, 0, 99, 4, 4);
        SownSeeds one = c.told("board 2;seeds 0 1;barred 1;barred 2;mean 3;seeds 3 3");
        c.due("move(0), one alone", one.move(0), 1);
    }

    private void noneIsLeftForTheBarn() {
        c.part("all SEEDS that are left: none, if the last one just finds its place");
        SownSeeds x = c.told("board 2;mean 1;seeds 1 0;barred 2;barred 3;seeds 0 3");
        c.due("move(0), 3 of 3", x.move(0), 0);
        c.seeds(x, 0, 3, 4, 4);
        SownSeeds y = c.told("board 2;mean 1;seeds 1 0;barred 2;barred 3;seeds 0 4");
        c.due("move(0), 3 of 4", y.move(0), 1);
        c.seeds(y, 0, 3, 4, 4);
    }

    private void fallsInto(String kind, int[] brings) {
        for (int g = 0; g < brings.length; g++) {
            SownSeeds x = c.told("board 2;seeds 1 1;" + kind + " 2;seeds 2 " + g);
            c.due("move(1), into a " + kind + " one of " + g, x.move(1), brings[g]);
            c.due("house(2, 1)", x.house(2, 1), brings[g] > 0 ? 0 : g + 1);
            c.due("count(3)", x.count(3), brings[g]);
            c.due("count(4)", x.count(4), 0);
        }
    }

    private void yieldsWhereTheLastFalls() {
        c.part("if that HOUSE is of the other SIDE, and YIELDS, all that are in it go to the BARN of the SIDE that moved");
        fallsInto("plain", new int[] {0, 2, 3, 0, 0, 0, 0});
        fallsInto("deep", new int[] {0, 2, 3, 0, 0, 0, 0});
        fallsInto("rich", new int[] {0, 2, 3, 4, 5, 0, 0});
        fallsInto("mean", new int[] {0, 0, 0});
        SownSeeds other = c.told("board 2;turn 1;seeds 3 1;seeds 0 2");
        c.due("move(3)", other.move(3), 3);
        c.due("count(3)", other.count(3), 0);
        c.due("count(4)", other.count(4), 3);
    }

    private void theLastFallsOnOnesOwn() {
        c.part("if that HOUSE is of the other SIDE (not of one's own)");
        SownSeeds x = c.told("seeds 0 1;seeds 1 1");
        c.due("move(0)", x.move(0), 0);
        c.seeds(x, 0, 2, 4, 4, 4, 4);
        // Round to its own side again, past houses that would yield.
        SownSeeds y = c.told("board 2;seeds 1 3;seeds 0 1;seeds 2 1;seeds 3 1");
        c.due("move(1)", y.move(1), 0);
        c.seeds(y, 2, 0, 2, 2);
        SownSeeds z = c.told("board 2;turn 1;seeds 2 1;seeds 3 2");
        c.due("move(2)", z.move(2), 0);
        c.seeds(z, 4, 4, 0, 3);
    }

    private void theHousesAheadLikewise() {
        c.part("and then of the HOUSE ahead of that likewise, and so on");
        for (int h = 2; h <= 5; h++) {
            StringBuilder zero = new StringBuilder("board " + h + ";seeds " + (h - 1) + " " + h);
            StringBuilder one = new StringBuilder("board " + h + ";turn 1;seeds " + (2 * h - 1) + " " + h);
            for (int n = 0; n < h; n++) {
                zero.append(";seeds ").append(h + n).append(" 1");
                one.append(";seeds ").append(n).append(" 2");
            }
            SownSeeds x = c.told(zero.toString());
            c.due("move, all of SIDE 1", x.move(h - 1), 2 * h);
            SownSeeds y = c.told(one.toString());
            c.due("move, all of SIDE 0", y.move(2 * h - 1), 3 * h);
            for (int n = 0; n < h; n++) {
                c.due("a HOUSE of SIDE 1", x.house(h + n, 1), 0);
                c.due("a HOUSE of SIDE 0", y.house(n, 1), 0);
            }
            c.due("count(3)", x.count(3), 2 * h);
            c.due("count(4)", y.count(4), 3 * h);
        }
    }

    private void asLongAsItYields() {
        c.part("as long as it YIELDS");
        SownSeeds x = c.told("board 4;seeds 3 4;seeds 4 1;seeds 5 3;seeds 6 2;seeds 7 1");
        c.due("move(3), as far as 4 SEEDS", x.move(3), 2 + 3);
        c.seeds(x, 4, 4, 4, 0, 2, 4, 0, 0);
        SownSeeds none = c.told("board 4;seeds 3 3;seeds 4 1;seeds 5 1;seeds 6 3");
        c.due("move(3), not where the last falls", none.move(3), 0);
        c.seeds(none, 4, 4, 4, 0, 2, 2, 4, 4);
        SownSeeds one = c.told("board 4;seeds 3 3;seeds 4 1;seeds 5 0;seeds 6 1");
        c.due("move(3), as far as 1 SEED", one.move(3), 2);
        c.seeds(one, 4, 4, 4, 0, 2, 1, 0, 4);
        SownSeeds kinds = c.told("board 4;seeds 3 3;rich 4;seeds 4 4;mean 5;seeds 5 1;seeds 6 1");
        c.due("move(3), as far as the MEAN one", kinds.move(3), 2);
        SownSeeds barred = c.told("board 4;seeds 3 2;seeds 4 1;barred 5;seeds 5 2;seeds 6 1");
        c.due("move(3), as far as the BARRED one", barred.move(3), 2);
        SownSeeds rich = c.told("board 4;seeds 3 3;deep 4;seeds 4 2;rich 5;seeds 5 4;seeds 6 1");
        c.due("move(3), through RICH and DEEP ones", rich.move(3), 2 + 5 + 3);
    }

    private void asLongAsItIsOfTheOtherSide() {
        c.part("as long as it is of the other SIDE (the HOUSE ahead is the one of which it is the next)");
        for (int h = 2; h <= 5; h++) {
            int last = 2 * h - 1;
            SownSeeds x = c.told("board " + h + ";seeds " + (h - 2) + " 2;seeds " + (h - 1) + " 1;seeds " + h + " 1");
            c.due("move, from SIDE 0", x.move(h - 2), 2);
            c.due("the last of SIDE 0", x.house(h - 1, 1), 2);
            // Ahead of HOUSE 0 is the last one, round the board's end.
            SownSeeds y = c.told("board " + h + ";turn 1;seeds " + (last - 1) + " 2;seeds " + last + " 1;seeds 0 1");
            c.due("move, from SIDE 1", y.move(last - 1), 2);
            c.due("the last of SIDE 1", y.house(last, 1), 2);
            c.due("house(0, 1)", y.house(0, 1), 0);
        }
    }

    private void nowhereIfSeedsWereLeft() {
        c.part("Where the last one falls (nowhere, if SEEDS were left for the BARN)");
        // HOUSE 3, of 2 and then 3, is MEAN, the one ahead is BARRED: only what is left comes to the BARN.
        SownSeeds x = c.told("board 2;seeds 0 2;barred 1;barred 2;seeds 2 2;mean 3;seeds 3 2");
        c.due("move(0)", x.move(0), 1);
        c.seeds(x, 0, 4, 2, 3);
        // None was sown at all, and the HOUSE ahead of the one it began from is of the other SIDE.
        SownSeeds y = c.told("board 2;turn 1;seeds 2 3;barred 0;mean 1;seeds 1 3;barred 3");
        c.due("move(2)", y.move(2), 3);
        c.seeds(y, 4, 3, 0, 4);
    }

    private void barnsHaveNoEnd() {
        c.part("Each SIDE has a BARN with SEEDS (told up to 99; MOVES bring more)");
        SownSeeds x = c.told("board 2;barred 1;barred 2;barred 3;seeds 0 30;barn 0 99");
        fill(x, 0, 99);
        c.due("move(0)", x.move(0), 99);
        c.due("count(3)", x.count(3), 198);
        c.due("best(1, -1)", x.best(1, -1), 5000 - 198);
    }

    private void turnOfTheOther() {
        c.part("Then it is the other's TURN");
        SownSeeds x = new SownSeeds();
        c.due("move(0)", x.move(0), 0);
        c.due("count(2)", x.count(2), 1);
        x.move(5);
        c.due("count(2)", x.count(2), 0);
        SownSeeds reaps = c.told("seeds 2 1;seeds 3 1");
        c.due("move(2)", reaps.move(2), 2);
        c.due("count(2), also if it brought some", reaps.count(2), 1);
        // Also if the other has no MOVE that GOES.
        SownSeeds stuck = c.told("board 2;seeds 0 1;barred 2;barred 3");
        c.due("move(0)", stuck.move(0), 0);
        c.due("count(2)", stuck.count(2), 1);
        c.due("count(6)", stuck.count(6), 0);
        c.due("move(1)", stuck.move(1), NOT);
    }

    private void overIfNoMoveGoes() {
        c.part("It is OVER, if no MOVE GOES");
        SownSeeds x = c.told("board 2;seeds 0 0;deep 1;seeds 1 1;seeds 2 30;seeds 3 30");
        c.due("count(6)", x.count(6), 0);
        c.due("over()", x.over(), 0);
        for (int house = 0; house < 4; house++) {
            c.due("move(" + house + ")", x.move(house), NOT);
        }
        // A SEED dropped in, and it is not OVER any more.
        x.drop(1, 1);
        c.due("count(6)", x.count(6), 0b0010);
        c.holds("over()", x.over() != 0);
    }

    // ---- by KIND

    // LIFTED, TAKES, YIELDS of a HOUSE of the KIND with so many SEEDS.
    private void kindDoes(String kind, int g, int lifted, int takes, int yields) {
        SownSeeds x = c.told("board 2;" + kind + " 3;seeds 3 " + Math.min(g, 30));
        if (g > 30) {
            fill(x, 3, g);
        }
        String house = "a " + kind + " one of " + g;
        c.due("SEEDS of " + house, x.house(3, 1), g);
        c.due("LIFTED of " + house, x.house(3, 2), lifted);
        c.due("TAKES: " + house, x.house(3, 3), takes);
        c.due("YIELDS: " + house, x.house(3, 4), yields);
    }

    private void plain() {
        c.part("PLAIN: all are LIFTED; it TAKES one, if there are 98 or fewer; it YIELDS, if g is 2 or 3");
        kindDoes("plain", 0, 0, 1, 0);
        kindDoes("plain", 1, 1, 1, 0);
        kindDoes("plain", 2, 2, 1, 1);
        kindDoes("plain", 3, 3, 1, 1);
        kindDoes("plain", 4, 4, 1, 0);
        kindDoes("plain", 5, 5, 1, 0);
        kindDoes("plain", 97, 97, 1, 0);
        kindDoes("plain", 98, 98, 1, 0);
        kindDoes("plain", 99, 99, 0, 0);
    }

    private void deep() {
        c.part("DEEP: as PLAIN, but one less is LIFTED (0 at least)");
        kindDoes("deep", 0, 0, 1, 0);
        kindDoes("deep", 1, 0, 1, 0);
        kindDoes("deep", 2, 1, 1, 1);
        kindDoes("deep", 3, 2, 1, 1);
        kindDoes("deep", 4, 3, 1, 0);
        kindDoes("deep", 98, 97, 1, 0);
        kindDoes("deep", 99, 98, 0, 0);
    }

    private void rich() {
        c.part("RICH: as PLAIN, but YIELDS also, if g is 4 or 5");
        kindDoes("rich", 0, 0, 1, 0);
        kindDoes("rich", 1, 1, 1, 0);
        kindDoes("rich", 2, 2, 1, 1);
        kindDoes("rich", 3, 3, 1, 1);
        kindDoes("rich", 4, 4, 1, 1);
        kindDoes("rich", 5, 5, 1, 1);
        kindDoes("rich", 6, 6, 1, 0);
        kindDoes("rich", 98, 98, 1, 0);
        kindDoes("rich", 99, 99, 0, 0);
    }

    private void barred() {
        c.part("BARRED: none are LIFTED, it TAKES none, never YIELDS");
        for (int g = 0; g <= 6; g++) {
            kindDoes("barred", g, 0, 0, 0);
        }
        kindDoes("barred", 99, 0, 0, 0);
    }

    private void mean() {
        c.part("MEAN: as BARRED, but half of g (cut up) are LIFTED, and it TAKES one, if g is 2 or less");
        kindDoes("mean", 0, 0, 1, 0);
        kindDoes("mean", 1, 1, 1, 0);
        kindDoes("mean", 2, 1, 1, 0);
        kindDoes("mean", 3, 2, 0, 0);
        kindDoes("mean", 4, 2, 0, 0);
        kindDoes("mean", 5, 3, 0, 0);
        kindDoes("mean", 98, 49, 0, 0);
        kindDoes("mean", 99, 50, 0, 0);
    }

    private void droppedTo99AtMost() {
        c.part("DROPPED: SEEDS of a HOUSE are more (99 at most)");
        SownSeeds x = c.told("seeds 0 30;barred 1;mean 2;seeds 2 3");
        fill(x, 0, 69);
        c.due("drop(0, 30), just to 99", x.drop(0, 30), 99);
        // By drops a HOUSE has more of whatever KIND it is, also if it TAKES none.
        c.due("drop(1, 1), BARRED", x.drop(1, 1), 5);
        c.due("drop(2, 1), MEAN", x.drop(2, 1), 4);
        fill(x, 3, 70);
        c.due("drop(3, 30), beyond 99", x.drop(3, 30), 99);
        fill(x, 4, 98);
        c.due("drop(4, 1)", x.drop(4, 1), 99);
        c.seeds(x, 99, 5, 4, 99, 99, 4);
        // Dropping is no MOVE.
        c.due("count(1)", x.count(1), 0);
        c.due("count(2)", x.count(2), 0);
    }

    private void swappedKindsAlone() {
        c.part("SWAPPED: the KINDS of two HOUSES are the other way about");
        SownSeeds x = c.told("deep 0;seeds 0 9;mean 5;seeds 5 1");
        c.due("swap(0, 5)", x.swap(0, 5), 4);
        c.kinds(x, 4, 0, 0, 0, 0, 1);
        c.seeds(x, 9, 4, 4, 4, 4, 1);
        c.due("swap(0, 5) back", x.swap(0, 5), 1);
        c.kinds(x, 1, 0, 0, 0, 0, 4);
        c.due("count(1)", x.count(1), 0);
        c.due("count(2)", x.count(2), 0);
    }

    // ---- promises 8 to 13

    private void moveUnknown() {
        c.part("promise 8: UNKNOWN");
        SownSeeds x = new SownSeeds();
        c.due("move(-1)", x.move(-1), UNKNOWN);
        c.due("move(6)", x.move(6), UNKNOWN);
        c.due("move(least)", x.move(LEAST), UNKNOWN);
        c.due("move(most)", x.move(MOST), UNKNOWN);
        c.due("count(1)", x.count(1), 0);
    }

    private void moveNot() {
        c.part("promise 8: NOT: it does not GO, or is of the other SIDE");
        SownSeeds x = c.told("seeds 0 0;deep 1;seeds 1 1;barred 2;seeds 3 0");
        for (int house = 0; house < 6; house++) {
            c.due("move(" + house + ")", x.move(house), NOT);
        }
        c.due("count(1)", x.count(1), 0);
        c.due("count(2)", x.count(2), 0);
        c.due("count(9)", x.count(9), 0);
    }

    // So many MOVES go beyond the 512th call, where answers are free; the bound is held all the same.
    private void moveFull() {
        c.part("promise 8: FULL: there were 999 MOVES");
        SownSeeds x = c.told("board 2;mean 0;mean 1;mean 2;mean 3;seeds 0 1;seeds 1 1;seeds 2 1;seeds 3 1");
        for (int n = 0; n < 998; n++) {
            x.move(Integer.numberOfTrailingZeros(x.count(6)));
        }
        c.due("count(1)", x.count(1), 998);
        c.holds("the 999th goes", x.move(Integer.numberOfTrailingZeros(x.count(6))) >= 0);
        int going = Integer.numberOfTrailingZeros(x.count(6));
        c.due("the 1000th", x.move(going), FULL);
        c.due("of UNKNOWN and FULL", x.move(4), UNKNOWN);
        c.due("of NOT and FULL", x.move(going < 2 ? 2 : 0), NOT);
        c.due("count(1)", x.count(1), 999);
    }

    private void dropRefuses() {
        c.part("promise 9: n (1 .. 30); UNKNOWN; OUTSIDE");
        SownSeeds x = new SownSeeds();
        c.due("drop(0, 0)", x.drop(0, 0), OUTSIDE);
        c.due("drop(0, -1)", x.drop(0, -1), OUTSIDE);
        c.due("drop(0, 31)", x.drop(0, 31), OUTSIDE);
        c.due("drop(0, least)", x.drop(0, LEAST), OUTSIDE);
        c.due("drop(0, most)", x.drop(0, MOST), OUTSIDE);
        c.due("drop(-1, 1)", x.drop(-1, 1), UNKNOWN);
        c.due("drop(6, 1)", x.drop(6, 1), UNKNOWN);
        c.due("drop(6, 31), of UNKNOWN and OUTSIDE", x.drop(6, 31), UNKNOWN);
        c.due("count(9)", x.count(9), 0);
        c.due("drop(0, 1)", x.drop(0, 1), 5);
        c.due("drop(5, 30)", x.drop(5, 30), 34);
    }

    private void dropNot() {
        c.part("promise 9: NOT: there are 99");
        SownSeeds x = new SownSeeds();
        fill(x, 2, 98);
        c.due("drop(2, 30), of 98", x.drop(2, 30), 99);
        int undoable = x.count(9);
        c.due("drop(2, 1), of 99", x.drop(2, 1), NOT);
        c.due("drop(2, 0), of OUTSIDE and NOT", x.drop(2, 0), OUTSIDE);
        c.due("drop(2, 31), of OUTSIDE and NOT", x.drop(2, 31), OUTSIDE);
        c.due("house(2, 1)", x.house(2, 1), 99);
        c.due("count(9)", x.count(9), undoable);
    }

    private void swapUnknown() {
        c.part("promise 10: UNKNOWN (no such HOUSE; two that are the same)");
        SownSeeds x = c.told("deep 0;rich 5");
        c.due("swap(-1, 0)", x.swap(-1, 0), UNKNOWN);
        c.due("swap(0, -1)", x.swap(0, -1), UNKNOWN);
        c.due("swap(6, 0)", x.swap(6, 0), UNKNOWN);
        c.due("swap(0, 6)", x.swap(0, 6), UNKNOWN);
        c.due("swap(least, most)", x.swap(LEAST, MOST), UNKNOWN);
        c.due("swap(0, 0), of UNKNOWN and NOT", x.swap(0, 0), UNKNOWN);
        c.due("swap(5, 5), of UNKNOWN and NOT", x.swap(5, 5), UNKNOWN);
        c.due("count(9)", x.count(9), 0);
        c.due("swap(0, 5)", x.swap(0, 5), 2);
    }

    private void swapNot() {
        c.part("promise 10: NOT: they are of one KIND");
        SownSeeds x = c.told("deep 1;deep 2;seeds 1 9;mean 3;mean 4");
        c.due("swap(0, 5), PLAIN", x.swap(0, 5), NOT);
        c.due("swap(1, 2), DEEP", x.swap(1, 2), NOT);
        c.due("swap(4, 3), MEAN", x.swap(4, 3), NOT);
        c.due("count(9)", x.count(9), 0);
    }

    private void undoNone() {
        c.part("promise 11: NOT: none");
        SownSeeds x = new SownSeeds();
        c.due("undo()", x.undo(), NOT);
        x.drop(0, 1);
        c.due("undo()", x.undo(), 0);
        c.due("undo()", x.undo(), NOT);
        c.seeds(x, 4, 4, 4, 4, 4, 4);
    }

    private void undoTheLast8() {
        c.part("promise 11: the last 8 can be");
        SownSeeds x = new SownSeeds();
        for (int n = 1; n <= 8; n++) {
            x.drop(0, 1);
            c.due("count(9)", x.count(9), n);
        }
        x.drop(0, 1);
        c.due("count(9), behind the 9th", x.count(9), 8);
        c.due("undo()", x.undo(), 7);
        c.due("undo()", x.undo(), 6);
        x.drop(1, 5);
        c.due("count(9), one more again", x.count(9), 7);
        for (int n = 6; n >= 0; n--) {
            c.due("undo()", x.undo(), n);
        }
        c.due("undo()", x.undo(), NOT);
        // The first of nine can't be undone any more.
        c.seeds(x, 5, 4, 4, 4, 4, 4);
        c.part("promise 11: the last 8, each as it was");
        SownSeeds y = new SownSeeds();
        for (int n = 0; n < 20; n++) {
            y.drop(5, 1);
        }
        for (int n = 7; n >= 0; n--) {
            c.due("undo()", y.undo(), n);
            c.due("house(5, 1)", y.house(5, 1), 4 + 12 + n);
        }
        c.due("undo()", y.undo(), NOT);
        c.due("house(5, 1)", y.house(5, 1), 16);
    }

    private void undoOfEach() {
        c.part("promise 11: The latest move(), drop(), swap() is undone");
        SownSeeds x = c.told("deep 1;seeds 2 1;seeds 3 2;barn 0 6;barn 1 7");
        x.drop(0, 30);
        x.swap(0, 1);
        c.due("move(2)", x.move(2), 3);
        c.due("undo()", x.undo(), 2);
        c.seeds(x, 34, 4, 1, 2, 4, 4);
        c.due("count(1)", x.count(1), 0);
        c.due("count(2)", x.count(2), 0);
        c.due("count(3)", x.count(3), 6);
        c.due("count(4)", x.count(4), 7);
        c.kinds(x, 1, 0, 0, 0, 0, 0);
        c.due("undo()", x.undo(), 1);
        c.kinds(x, 0, 1, 0, 0, 0, 0);
        c.due("undo()", x.undo(), 0);
        c.seeds(x, 4, 4, 1, 2, 4, 4);
        c.part("promise 11: no other call is undone");
        x.drop(0, 1);
        x.keep(0);
        x.seen(1, 1, 1, 0);
        x.box(0, 1);
        x.write('a');
        c.due("undo()", x.undo(), 0);
        c.due("house(0, 1)", x.house(0, 1), 4);
        c.due("count(7)", x.count(7), 1);
        c.due("count(8)", x.count(8), 1);
        c.due("count(10)", x.count(10), 1);
        c.due("back(0)", x.back(0), 0);
        c.due("house(0, 1)", x.house(0, 1), 5);
    }

    private void keepUnknown() {
        c.part("promise 12: k 0, 1; UNKNOWN: no such k");
        SownSeeds x = new SownSeeds();
        c.due("keep(-1)", x.keep(-1), UNKNOWN);
        c.due("keep(2)", x.keep(2), UNKNOWN);
        c.due("keep(least)", x.keep(LEAST), UNKNOWN);
        c.due("keep(most)", x.keep(MOST), UNKNOWN);
        c.due("back(0)", x.back(0), NOT);
        c.due("back(1)", x.back(1), NOT);
        c.due("keep(0)", x.keep(0), 0);
        x.move(0);
        c.due("keep(1)", x.keep(1), 1);
    }

    private void keepOverAnOldOne() {
        c.part("promise 12: The board as it is now is kept");
        SownSeeds x = new SownSeeds();
        x.keep(1);
        x.move(2);
        c.due("keep(1)", x.keep(1), 1);
        c.due("count(9), keeping undoes nothing", x.count(9), 1);
        x.move(3);
        c.due("back(1)", x.back(1), 1);
        c.seeds(x, 5, 4, 0, 5, 5, 5);
        c.due("count(2)", x.count(2), 1);
        x.drop(0, 1);
        c.due("back(1), as it was kept", x.back(1), 1);
        c.seeds(x, 5, 4, 0, 5, 5, 5);
    }

    private void backUnknown() {
        c.part("promise 13: UNKNOWN");
        SownSeeds x = new SownSeeds();
        c.due("back(-1), of UNKNOWN and NOT", x.back(-1), UNKNOWN);
        c.due("back(2), of UNKNOWN and NOT", x.back(2), UNKNOWN);
        x.keep(0);
        x.keep(1);
        c.due("back(-1)", x.back(-1), UNKNOWN);
        c.due("back(2)", x.back(2), UNKNOWN);
        c.due("back(least)", x.back(LEAST), UNKNOWN);
        c.due("back(most)", x.back(MOST), UNKNOWN);
    }

    private void backNot() {
        c.part("promise 13: NOT: nothing was kept since the last text");
        SownSeeds x = new SownSeeds();
        x.keep(1);
        c.due("back(0)", x.back(0), NOT);
        c.due("back(1)", x.back(1), 0);
        Checks.write(x, "turn 2");
        c.due("board()", x.board(), NOT);
        c.due("back(1), the text was not done", x.back(1), 0);
        x.erase();
        c.tell(x, "turn 1");
        c.due("back(1)", x.back(1), NOT);
        x.keep(0);
        c.due("back(1)", x.back(1), NOT);
        c.due("back(0)", x.back(0), 0);
        c.due("count(2)", x.count(2), 1);
    }

    private void backUndoesNothing() {
        c.part("promise 13: nothing can be undone");
        SownSeeds x = new SownSeeds();
        x.move(0);
        x.keep(0);
        x.drop(1, 1);
        c.due("count(9)", x.count(9), 2);
        c.due("back(0)", x.back(0), 1);
        c.due("count(9)", x.count(9), 0);
        c.due("undo()", x.undo(), NOT);
        c.due("count(1)", x.count(1), 1);
        x.drop(1, 1);
        c.due("undo()", x.undo(), 0);
        c.due("undo()", x.undo(), NOT);
    }
}
