/**
 * The edges that the document names of what is FORETOLD and of what was SEEN, promises 14 to 23:
 * a test for each sentence, which its part tells.
 */
public final class EdgesForetoldTest {
    private static final int NONE = -1, UNKNOWN = -2, OUTSIDE = -3, NOT = -4, FULL = -5;
    private static final int LEAST = Integer.MIN_VALUE, MOST = Integer.MAX_VALUE;

    // Two MEAN houses that don't take from one another: 15 to 0, 15 to 1, 8 to 0, 8 to 1, 4 to 0, 4 to 1, 2 to 0, .. .
    private static final String BY_TURNS = "board 2;mean 0;barred 1;mean 2;barred 3;seeds 0 30;seeds 2 30";
    // One SEED, which goes from 1 to 2 to 3, and there it is OVER.
    private static final String SOON_OVER = "board 2;seeds 0 0;seeds 1 1;seeds 2 0;seeds 3 0";
    private static final String OVER_NOW = "board 2;seeds 0 0;seeds 1 0;seeds 2 9;seeds 3 9";
    // 1 brings 2, but then 3 brings 2 of 0; 0 brings nothing, and so does then each of the other.
    private static final String ONES = "board 2;seeds 0 1;seeds 1 1;seeds 2 1;seeds 3 1";

    private final Checks c = new Checks();

    public static void main(String[] args) {
        EdgesForetoldTest t = new EdgesForetoldTest();
        t.leadBelowNothing();
        t.theLastHouseAlone();
        t.bringsRefuses();
        t.bringsNothingOrAll();
        t.bestBounds();
        t.bestLineBounds();
        t.bestByBoth();
        t.bestWhenOverSooner();
        t.bestOfSeveral();
        t.bestOfTheSideWhoseTurnItIs();
        t.rashBounds();
        t.rashWhenOverSooner();
        t.rashOfSeveral();
        t.rashTellsOfSide0();
        t.overFrom0To60();
        t.overNone();
        t.giftBounds();
        t.giftMoreThanWithout();
        t.giftOf99AtMost();
        t.giftOfSeveral();
        t.giftOfOneSeedAlone();
        t.giftOfTheSideWhoseTurnItIs();
        t.giftWhenOver();
        t.luckBounds();
        t.luckAboveNothing();
        t.luckWhenOverSooner();
        t.luckInLowestTerms();
        t.luckEachThatGoes();
        t.luckOfAllMoves();
        t.seenOutside();
        t.seenAtMost6();
        t.forgetNothing();
        t.kindsAllAndNone();
        t.kindsOfEachSeen();
        t.askBest();
        t.askNone();
        t.c.end();
    }

    private void bestIs(SownSeeds x, int d, int lead, int... line) {
        c.due("best(" + d + ", -1)", x.best(d, NONE), 5000 + lead);
        for (int k = 0; k <= 4; k++) {
            c.due("best(" + d + ", " + k + ")", x.best(d, k), k < line.length ? line[k] : NONE);
        }
    }

    private void luckIs(SownSeeds x, int n, int above, int below) {
        c.due("luck(" + n + ", 0)", x.luck(n, 0), above);
        c.due("luck(" + n + ", 1)", x.luck(n, 1), below);
    }

    // ---- 3

    private void leadBelowNothing() {
        c.part("LEAD of a SIDE: its BARN less that of the other; LEADS are answered with 5000 more");
        SownSeeds x = c.told(OVER_NOW + ";barn 1 99");
        c.due("best(1, -1)", x.best(1, NONE), 4901);
        c.due("rash(0)", x.rash(0), 4901);
        c.tell(x, "barn 0 99;barn 1 0");
        c.due("best(1, -1)", x.best(1, NONE), 5099);
        c.due("rash(0)", x.rash(0), 5099);
        c.tell(x, "barn 1 99");
        c.due("best(1, -1)", x.best(1, NONE), 5000);
        c.due("rash(0)", x.rash(0), 5000);
    }

    private void theLastHouseAlone() {
        c.part("HOUSES are 0 .. 2 h less 1: FORETOLD of the last one, which alone GOES");
        for (int h = 2; h <= 5; h++) {
            int last = 2 * h - 1;
            StringBuilder text = new StringBuilder("board " + h + ";turn 1;seeds 0 1");
            for (int house = 1; house < 2 * h; house++) {
                text.append(";seeds ").append(house).append(house == last ? " 1" : " 0");
            }
            String[] calls = {"rash", "over", "best", "luck", "gift"};
            for (String call : calls) {
                // On an object of its own each, as it would be the first of what is FORETOLD.
                lastHouseBy(call, c.told(text.toString()), last);
            }
        }
    }

    private void lastHouseBy(String call, SownSeeds x, int last) {
        switch (call) {
            case "rash" -> c.due("rash(1)", x.rash(1), 4998);
            case "over" -> c.due("over()", x.over(), 1);
            case "best" -> bestIs(x, 5, 2, last);
            case "luck" -> luckIs(x, 3, 1, 1);
            default -> c.due("gift(1)", x.gift(1), NONE);
        }
    }

    private void bringsRefuses() {
        c.part("promise 14: UNKNOWN; NOT: as of move()");
        SownSeeds x = c.told("seeds 0 0;deep 1;seeds 1 1;barred 2;seeds 3 0");
        c.due("brings(-1)", x.brings(-1), UNKNOWN);
        c.due("brings(6)", x.brings(6), UNKNOWN);
        c.due("brings(least)", x.brings(LEAST), UNKNOWN);
        c.due("brings(most)", x.brings(MOST), UNKNOWN);
        for (int house = 0; house < 6; house++) {
            c.due("brings(" + house + ")", x.brings(house), NOT);
        }
    }

    private void bringsNothingOrAll() {
        c.part("promise 14: What a MOVE would bring to the BARN");
        SownSeeds x = c.told("board 2;seeds 0 1;seeds 1 1;seeds 2 2;barn 0 50;barn 1 60");
        c.due("brings(0), nothing", x.brings(0), 0);
        c.due("brings(1)", x.brings(1), 3);
        SownSeeds y = c.told("board 2;barred 1;barred 2;barred 3;seeds 0 30");
        c.due("brings(0), all", y.brings(0), 30);
        c.due("count(3)", y.count(3), 0);
        c.due("house(0, 1)", y.house(0, 1), 30);
    }

    private void bestBounds() {
        c.part("BEST for d MOVES (1 .. 5); promise 15: OUTSIDE");
        SownSeeds x = c.told(BY_TURNS);
        bestIs(x, 1, 15, 0);
        bestIs(x, 2, 0, 0, 2);
        bestIs(x, 3, 8, 0, 2, 0);
        bestIs(x, 4, 0, 0, 2, 0, 2);
        bestIs(x, 5, 4, 0, 2, 0, 2, 0);
        c.due("best(0, -1)", x.best(0, NONE), OUTSIDE);
        c.due("best(6, -1)", x.best(6, NONE), OUTSIDE);
        c.due("best(-1, 0)", x.best(-1, 0), OUTSIDE);
        c.due("best(least, 0)", x.best(LEAST, 0), OUTSIDE);
        c.due("best(most, 0)", x.best(MOST, 0), OUTSIDE);
    }

    private void bestLineBounds() {
        c.part("promise 15: the LEAD (k NONE), the k-th MOVE of the LINE (0 .. 4; NONE: there is none)");
        SownSeeds x = c.told(BY_TURNS);
        c.due("best(5, -2)", x.best(5, -2), OUTSIDE);
        c.due("best(5, 5)", x.best(5, 5), OUTSIDE);
        c.due("best(5, least)", x.best(5, LEAST), OUTSIDE);
        c.due("best(5, most)", x.best(5, MOST), OUTSIDE);
        c.due("best(5, 4)", x.best(5, 4), 0);
        c.due("best(4, 3)", x.best(4, 3), 2);
        c.due("best(4, 4), beyond d", x.best(4, 4), NONE);
        c.due("best(1, 1), beyond d", x.best(1, 1), NONE);
    }

    private void bestByBoth() {
        c.part("by both doing what is best for themselves");
        SownSeeds x = c.told(ONES);
        bestIs(x, 1, 2, 1);
        bestIs(x, 2, 0, 0, 2);
    }

    private void bestWhenOverSooner() {
        c.part("behind d MOVES, or when it is OVER, if that is sooner");
        SownSeeds x = c.told(SOON_OVER + ";barn 0 7");
        bestIs(x, 1, 7, 1);
        bestIs(x, 2, 7, 1, 2);
        bestIs(x, 3, 7, 1, 2);
        bestIs(x, 5, 7, 1, 2);
        SownSeeds now = c.told(OVER_NOW + ";barn 1 3");
        bestIs(now, 1, -3);
        bestIs(now, 5, -3);
    }

    private void bestOfSeveral() {
        c.part("BEST: of several the least HOUSE");
        // All of SIDE 0 bring nothing, then so do all of SIDE 1.
        bestIs(c.told("board 5"), 1, 0, 0);
        bestIs(c.told("board 5"), 2, 0, 0, 5);
        // HOUSE 0 does not go, 1 and 2 bring 2 each.
        bestIs(c.told("seeds 0 0;seeds 1 2;seeds 2 1;seeds 3 1"), 1, 2, 1);
        bestIs(c.told("seeds 0 0;seeds 1 3;seeds 2 1;seeds 3 1;seeds 4 4"), 1, 2, 2);
    }

    private void bestOfTheSideWhoseTurnItIs() {
        c.part("the LEAD of the SIDE whose TURN it is now");
        SownSeeds x = c.told("turn 1;barn 0 7");
        bestIs(x, 1, -7, 3);
        SownSeeds y = c.told(BY_TURNS + ";turn 1");
        bestIs(y, 1, 15, 2);
        bestIs(y, 2, 0, 2, 0);
    }

    // The HOUSE that brings most, of several the least; NONE goes.
    private static int bringsMost(SownSeeds x, int houses) {
        int most = NONE;
        int found = NONE;
        for (int house = 0; house < houses; house++) {
            int brought = x.brings(house);
            if (brought > most) {
                most = brought;
                found = house;
            }
        }
        return found;
    }

    // The LEAD of SIDE 0 behind n rash MOVES, by MOVES that are done.
    private int rashByMoves(String text, int n) {
        SownSeeds x = c.told(text);
        int houses = x.count(0);
        for (int gone = 0; gone < n; gone++) {
            int house = bringsMost(x, houses);
            c.holds("a MOVE goes", x.move(house) >= 0);
        }
        return x.count(3) - x.count(4);
    }

    private void rashBounds() {
        c.part("RASH for n MOVES (0 .. 40); promise 16: OUTSIDE");
        SownSeeds x = c.told(BY_TURNS);
        int[] leads = {0, 15, 0, 8, 0, 4, 0, 2};
        for (int n = 0; n < leads.length; n++) {
            c.due("rash(" + n + ")", x.rash(n), 5000 + leads[n]);
        }
        c.due("rash(-1)", x.rash(-1), OUTSIDE);
        c.due("rash(41)", x.rash(41), OUTSIDE);
        c.due("rash(least)", x.rash(LEAST), OUTSIDE);
        c.due("rash(most)", x.rash(MOST), OUTSIDE);
        // OVER behind the 41st MOVE.
        String text = "board 2;seeds 0 3;seeds 1 6;seeds 2 5;seeds 3 8";
        SownSeeds y = c.told(text);
        c.due("over()", y.over(), 41);
        c.due("rash(39)", y.rash(39), 5000 + rashByMoves(text, 39));
        c.due("rash(40)", y.rash(40), 5000 + rashByMoves(text, 40));
    }

    private void rashWhenOverSooner() {
        c.part("promise 16: it may be OVER sooner");
        SownSeeds x = c.told(ONES);
        c.due("rash(1)", x.rash(1), 5002);
        c.due("over()", x.over(), 2);
        c.due("rash(2)", x.rash(2), 5000);
        c.due("rash(3)", x.rash(3), 5000);
        c.due("rash(40)", x.rash(40), 5000);
        SownSeeds now = c.told(OVER_NOW + ";barn 0 2");
        c.due("rash(0)", now.rash(0), 5002);
        c.due("rash(40)", now.rash(40), 5002);
    }

    private void rashOfSeveral() {
        c.part("each takes the MOVE that brings most to its BARN at once, of several the least HOUSE");
        // 0 and 1 bring 2 each; behind 0 the other finds nothing, behind 1 it would find 3.
        SownSeeds x = c.told("board 2;seeds 0 2;seeds 1 1;seeds 2 1;seeds 3 1");
        c.due("brings(0)", x.brings(0), 2);
        c.due("brings(1)", x.brings(1), 2);
        c.due("rash(2)", x.rash(2), 5002);
        // Of several that bring nothing, too: behind 0 HOUSE 3 brings nothing, behind 1 it would bring 2.
        SownSeeds y = c.told("board 2;seeds 0 1;seeds 1 1;seeds 2 0;seeds 3 1");
        c.due("rash(1)", y.rash(1), 5000);
        c.due("rash(2)", y.rash(2), 5000);
    }

    private void rashTellsOfSide0() {
        c.part("RASH: the LEAD of SIDE 0");
        SownSeeds x = c.told(BY_TURNS + ";turn 1");
        c.due("rash(0)", x.rash(0), 5000);
        c.due("rash(1)", x.rash(1), 4985);
        c.due("rash(2)", x.rash(2), 5000);
    }

    private void overFrom0To60() {
        c.part("promise 17: behind how many (0 .. 60) it is OVER");
        c.due("over(), now", c.told(OVER_NOW).over(), 0);
        c.due("over()", c.told("board 2;barred 0;barred 2;barred 3").over(), 1);
        c.due("over()", c.told(SOON_OVER).over(), 2);
        c.due("over(), 59", c.told("board 4;mean 2;seeds 2 6;mean 5;mean 6").over(), 59);
        SownSeeds x = c.told("board 2;seeds 0 9;seeds 1 8;seeds 3 7");
        c.due("over(), 60", x.over(), 60);
        // It is told from now on, not from the first MOVE on.
        SownSeeds y = c.told(SOON_OVER);
        y.move(1);
        c.due("over() behind a MOVE", y.over(), 1);
        y.move(2);
        c.due("over() behind two", y.over(), 0);
    }

    private void overNone() {
        c.part("promise 17: NONE");
        SownSeeds x = c.told("board 4;seeds 0 5;mean 1;deep 2;deep 3;mean 6");
        c.due("over(), 61", x.over(), NONE);
        x.move(bringsMost(x, 8));
        c.due("over(), 60 now", x.over(), 60);
        SownSeeds never = c.told("board 2;mean 0;mean 1;mean 2;mean 3;seeds 0 1;seeds 1 1;seeds 2 1;seeds 3 1");
        c.due("over(), never", never.over(), NONE);
    }

    private void giftBounds() {
        c.part("GIFT for d MOVES (1 .. 4); promise 18: OUTSIDE");
        // Of 30 as of 29 15 are LIFTED, then 8 or 7: only the third MOVE tells.
        SownSeeds x = c.told("board 2;mean 0;barred 1;mean 2;barred 3;seeds 0 29;seeds 2 30");
        c.due("gift(1)", x.gift(1), NONE);
        c.due("gift(2)", x.gift(2), NONE);
        c.due("gift(3)", x.gift(3), 0);
        c.due("gift(4)", x.gift(4), 0);
        c.due("gift(0)", x.gift(0), OUTSIDE);
        c.due("gift(5)", x.gift(5), OUTSIDE);
        c.due("gift(-1)", x.gift(-1), OUTSIDE);
        c.due("gift(least)", x.gift(LEAST), OUTSIDE);
        c.due("gift(most)", x.gift(MOST), OUTSIDE);
    }

    private void giftMoreThanWithout() {
        c.part("GIFT: so that BEST of d is most, more than without; none");
        SownSeeds alike = new SownSeeds();
        c.due("gift(1), nothing is more", alike.gift(1), NONE);
        c.due("gift(4), nothing is more", alike.gift(4), NONE);
        SownSeeds barred = c.told("board 2;barred 0;barred 1");
        c.due("gift(1), BARRED", barred.gift(1), NONE);
        // 1 brings 2 already; with one more in 0 there would be 2 as well, and no more.
        SownSeeds same = c.told("board 2;seeds 0 1;seeds 1 1;seeds 2 1;seeds 3 9");
        c.due("best(1, -1)", same.best(1, NONE), 5002);
        c.due("gift(1), as much", same.gift(1), NONE);
        // One more in 0 brings 2 from HOUSE 2; one more in 1 brings 3 and 2 from 3 and 2.
        SownSeeds most = c.told("board 2;seeds 0 1;seeds 1 1;seeds 2 1;seeds 3 2");
        c.due("gift(1), the most", most.gift(1), 1);
    }

    private void giftOf99AtMost() {
        c.part("GIFT: one SEED more (99 at most)");
        SownSeeds x = c.told("board 2;barred 1;barred 2;barred 3;seeds 0 30");
        x.drop(0, 30);
        x.drop(0, 30);
        x.drop(0, 8);
        c.due("gift(1), of 98", x.gift(1), 0);
        x.drop(0, 1);
        c.due("gift(1), of 99", x.gift(1), NONE);
        c.due("house(0, 1)", x.house(0, 1), 99);
    }

    private void giftOfSeveral() {
        c.part("GIFT: of several the least");
        // One more in 0, in 1 or in 2 brings 2 from HOUSE 3 each.
        SownSeeds x = c.told("seeds 0 2;seeds 1 1;seeds 2 0;seeds 3 1");
        c.due("best(1, -1)", x.best(1, NONE), 5000);
        c.due("gift(1)", x.gift(1), 0);
        c.tell(x, "seeds 0 5");
        c.due("gift(1)", x.gift(1), 1);
        c.tell(x, "seeds 1 0");
        c.due("gift(1)", x.gift(1), 2);
    }

    private void giftOfOneSeedAlone() {
        c.part("GIFT: one SEED more in one HOUSE");
        // 15 of 0, 15 of 1, to their BARN one behind the other: one more in either brings 16, of which 0 is the least.
        SownSeeds x = c.told("board 2;mean 0;mean 1;barred 2;mean 3;seeds 0 30;seeds 1 30;seeds 3 30");
        bestIs(x, 3, 15, 0, 3, 1);
        c.due("gift(3)", x.gift(3), 0);
        c.due("gift(3) again", x.gift(3), 0);
    }

    private void giftOfTheSideWhoseTurnItIs() {
        c.part("GIFT: the HOUSE of the SIDE whose TURN it is");
        // One more in HOUSE 2 of the other SIDE would yield 3 rather than 2; that is no gift.
        SownSeeds x = c.told("board 2;seeds 0 0;seeds 1 1;seeds 2 1;seeds 3 9");
        c.due("gift(1)", x.gift(1), NONE);
        SownSeeds y = c.told("turn 1;seeds 5 0;seeds 0 1;seeds 1 9;seeds 2 9;seeds 3 9;seeds 4 9");
        c.due("gift(1), of SIDE 1", y.gift(1), 5);
        SownSeeds first = c.told("turn 1;seeds 3 3;seeds 0 1;seeds 4 9;seeds 5 9");
        c.due("brings(3)", first.brings(3), 2);
        c.tell(first, "seeds 3 2");
        c.due("gift(1), the first of SIDE 1", first.gift(1), 3);
    }

    private void giftWhenOver() {
        c.part("GIFT, when it is OVER");
        SownSeeds x = c.told("board 2;seeds 0 0;seeds 1 0;seeds 2 1;seeds 3 1");
        c.due("gift(1), a MOVE more", x.gift(1), 1);
        SownSeeds y = c.told("board 2;barred 0;barred 1;seeds 2 1;seeds 3 1");
        c.due("gift(1), none goes all the same", y.gift(1), NONE);
    }

    private void luckBounds() {
        c.part("LUCK for n MOVES (1 .. 3); promise 19: OUTSIDE");
        SownSeeds x = c.told(BY_TURNS);
        luckIs(x, 1, 1, 1);
        luckIs(x, 2, 0, 1);
        luckIs(x, 3, 1, 1);
        c.due("luck(0, 0)", x.luck(0, 0), OUTSIDE);
        c.due("luck(4, 0)", x.luck(4, 0), OUTSIDE);
        c.due("luck(least, 0)", x.luck(LEAST, 0), OUTSIDE);
        c.due("luck(most, 1)", x.luck(MOST, 1), OUTSIDE);
        c.part("above (part 0), below (1); OUTSIDE");
        c.due("luck(1, -1)", x.luck(1, -1), OUTSIDE);
        c.due("luck(1, 2)", x.luck(1, 2), OUTSIDE);
        c.due("luck(3, least)", x.luck(3, LEAST), OUTSIDE);
        c.due("luck(3, most)", x.luck(3, MOST), OUTSIDE);
    }

    private void luckAboveNothing() {
        c.part("the odds that the LEAD of the SIDE whose TURN it is now is above 0 behind them");
        luckIs(c.told(OVER_NOW + ";barn 0 5;barn 1 5"), 1, 0, 1);
        luckIs(c.told(OVER_NOW + ";barn 0 6;barn 1 5"), 1, 1, 1);
        luckIs(c.told(OVER_NOW + ";barn 0 5;barn 1 6"), 1, 0, 1);
        // Each MOVE brings nothing: what was ahead stays so.
        luckIs(c.told("board 2;turn 1;barn 1 1"), 1, 1, 1);
        luckIs(c.told("board 2;turn 1;barn 0 1"), 1, 0, 1);
        luckIs(c.told("board 2;turn 1"), 1, 0, 1);
    }

    private void luckWhenOverSooner() {
        c.part("LUCK: or when it is OVER, if that is sooner");
        for (int n = 1; n <= 3; n++) {
            luckIs(c.told(SOON_OVER + ";barn 0 1"), n, 1, 1);
            luckIs(c.told(SOON_OVER), n, 0, 1);
            luckIs(c.told(OVER_NOW + ";barn 0 1"), n, 1, 1);
        }
        // Behind 1, which takes 4, it is OVER; behind 0 it goes on and leads to nothing.
        SownSeeds x = c.told("board 2;seeds 0 1;seeds 1 2;seeds 2 1;seeds 3 1");
        luckIs(x, 1, 1, 2);
        luckIs(x, 2, 1, 2);
    }

    private void luckInLowestTerms() {
        c.part("Parts are told in lowest terms");
        // 2 and 3 bring 2 each, 0 and 1 nothing: two of four.
        luckIs(c.told("board 4;seeds 0 1;seeds 1 1;seeds 2 2;seeds 3 1;seeds 4 1"), 1, 1, 2);
        // All four: one of one; none of four: none of one.
        luckIs(c.told("board 4;seeds 0 4;seeds 1 3;seeds 2 2;seeds 3 1;seeds 4 1"), 1, 1, 1);
        luckIs(c.told("board 4"), 1, 0, 1);
        // Of five, HOUSE 4 alone; 4 and 1, whose last one falls there too; 4, 3 and 1.
        luckIs(c.told("board 5;seeds 1 1;seeds 4 1;seeds 5 1"), 1, 1, 5);
        luckIs(c.told("board 5;seeds 4 1;seeds 5 1"), 1, 2, 5);
        luckIs(c.told("board 5;seeds 3 2;seeds 4 1;seeds 5 1"), 1, 3, 5);
    }

    private void luckEachThatGoes() {
        c.part("LUCK: each MOVE that GOES is as likely as any other");
        // 2 alone brings something, of as many as go.
        luckIs(c.told("seeds 2 1;seeds 3 1"), 1, 1, 3);
        luckIs(c.told("seeds 0 0;seeds 2 1;seeds 3 1"), 1, 1, 2);
        luckIs(c.told("seeds 0 0;barred 1;seeds 2 1;seeds 3 1"), 1, 1, 1);
        luckIs(c.told("deep 0;seeds 0 1;mean 1;seeds 1 0;seeds 2 1;seeds 3 1"), 1, 1, 1);
    }

    private static long commonDivisor(long one, long other) {
        return other == 0 ? one : commonDivisor(other, one % other);
    }

    // Above and below, by MOVES that are done and undone.
    private static long[] luckByMoves(SownSeeds x, int n, int side) {
        int lead = side == 0 ? x.count(3) - x.count(4) : x.count(4) - x.count(3);
        int going = x.count(6);
        boolean isSides = x.count(2) == side;
        long ways = Integer.bitCount(going);
        long[] sum = {ways == 0 && lead > 0 ? 1 : 0, 1};
        for (int house = 0; house < 10; house++) {
            if ((going >> house & 1) == 1) {
                long[] part = {0, 1};
                if (n == 1) {
                    int brought = x.brings(house);
                    part[0] = lead + (isSides ? brought : -brought) > 0 ? 1 : 0;
                } else {
                    x.move(house);
                    part = luckByMoves(x, n - 1, side);
                    x.undo();
                }
                sum = new long[] {sum[0] * part[1] * ways + part[0] * sum[1], sum[1] * part[1] * ways};
                long common = commonDivisor(sum[1], sum[0]);
                sum = new long[] {sum[0] / common, sum[1] / common};
            }
        }
        return sum;
    }

    private void luckOfAllMoves() {
        c.part("LUCK, of all MOVES that there are, up to 5 by 5 by 5");
        luckIs(c.told("board 2"), 3, 3, 8);
        luckIs(c.told("board 5;seeds 7 2;seeds 9 5"), 3, 27, 125);
        luckIs(c.told("board 5;seeds 2 1;seeds 5 1;seeds 6 4;seeds 9 1"), 3, 2419, 6000);
        String[] texts = {
            "board 2",
            "board 3;seeds 2 4;seeds 4 1",
            "board 4;seeds 1 5;seeds 4 1",
            "board 4;turn 1;seeds 0 5;seeds 1 1;seeds 6 1",
            "board 5;seeds 7 2;seeds 9 5",
            "board 5;turn 1;seeds 2 1;seeds 5 1",
            "board 5;seeds 2 1;seeds 5 1;seeds 6 4;seeds 9 1",
        };
        for (String text : texts) {
            for (int n = 1; n <= 3; n++) {
                SownSeeds x = c.told(text);
                long[] want = luckByMoves(x, n, x.count(2));
                c.holds("it is neither sure nor out of reach: " + text, n < 3 || want[0] > 0 && want[0] < want[1]);
                luckIs(x, n, (int) want[0], (int) want[1]);
            }
        }
    }

    // ---- what was seen

    private void seenOutside() {
        c.part("SEEN: with g SEEDS (0 .. 20), l were LIFTED (0 .. 20), (1) or (0); promise 20: OUTSIDE");
        SownSeeds x = new SownSeeds();
        int[] wrong = {-1, 21, LEAST, MOST};
        for (int n : wrong) {
            c.due("seen(" + n + ", 0, 0, 0)", x.seen(n, 0, 0, 0), OUTSIDE);
            c.due("seen(0, " + n + ", 0, 0)", x.seen(0, n, 0, 0), OUTSIDE);
            c.due("seen(0, 0, " + n + ", 0)", x.seen(0, 0, n, 0), OUTSIDE);
            c.due("seen(0, 0, 0, " + n + ")", x.seen(0, 0, 0, n), OUTSIDE);
        }
        c.due("seen(0, 0, 2, 0)", x.seen(0, 0, 2, 0), OUTSIDE);
        c.due("seen(0, 0, 0, 2)", x.seen(0, 0, 0, 2), OUTSIDE);
        c.due("count(7)", x.count(7), 0);
        c.due("seen(0, 0, 0, 0)", x.seen(0, 0, 0, 0), 1);
        c.due("seen(20, 20, 1, 1)", x.seen(20, 20, 1, 1), 2);
        c.due("seen(0, 20, 1, 0), more than there were", x.seen(0, 20, 1, 0), 3);
    }

    private void seenAtMost6() {
        c.part("SEEN, 6 at most; promise 20: FULL");
        SownSeeds x = new SownSeeds();
        for (int n = 1; n <= 6; n++) {
            c.due("seen(4, 4, 1, 0)", x.seen(4, 4, 1, 0), n);
        }
        c.due("seen(4, 3, 1, 0), the 7th", x.seen(4, 3, 1, 0), FULL);
        c.due("seen(21, 0, 0, 0), of OUTSIDE and FULL", x.seen(21, 0, 0, 0), OUTSIDE);
        c.due("seen(0, 0, 0, 2), of OUTSIDE and FULL", x.seen(0, 0, 0, 2), OUTSIDE);
        c.due("count(7)", x.count(7), 6);
        c.due("kinds(), the 7th is not SEEN", x.kinds(), 0b00001);
    }

    private void forgetNothing() {
        c.part("promise 21: SEEN is nothing: how many there were");
        SownSeeds x = new SownSeeds();
        c.due("forget()", x.forget(), 0);
        for (int n = 1; n <= 6; n++) {
            x.seen(4, 3, 1, 0);
        }
        c.due("kinds()", x.kinds(), 0b00010);
        c.due("forget()", x.forget(), 6);
        c.due("forget()", x.forget(), 0);
        c.due("count(7)", x.count(7), 0);
        c.due("kinds()", x.kinds(), 31);
        c.due("seen(4, 4, 1, 1)", x.seen(4, 4, 1, 1), 1);
        c.due("kinds()", x.kinds(), 0b00100);
    }

    private void kindsAllAndNone() {
        c.part("promise 22: KINDS by which all that is SEEN would be so");
        SownSeeds x = new SownSeeds();
        c.due("kinds(), nothing is SEEN", x.kinds(), 31);
        x.seen(0, 0, 1, 0);
        c.due("kinds()", x.kinds(), 0b10111);
        x.seen(1, 1, 1, 0);
        c.due("kinds()", x.kinds(), 0b10101);
        x.seen(2, 2, 1, 1);
        c.due("kinds()", x.kinds(), 0b00101);
        x.seen(4, 4, 1, 0);
        c.due("kinds()", x.kinds(), 0b00001);
        x.seen(4, 4, 1, 1);
        c.due("kinds(), by none", x.kinds(), 0);
        x.forget();
        // All that is SEEN: the first, one between, the last.
        x.seen(4, 3, 1, 0);
        x.seen(4, 4, 1, 0);
        x.seen(4, 3, 1, 0);
        c.due("kinds(), one is not so", x.kinds(), 0);
    }

    private void kindsOfEachSeen() {
        c.part("promise 22: by bits, at the edges of each KIND");
        int[][] seen = {
            {0, 0, 0, 0, 0b01000}, {0, 0, 1, 0, 0b10111}, {0, 0, 0, 1, 0}, {0, 1, 1, 0, 0},
            {1, 1, 1, 0, 0b10101}, {1, 0, 1, 0, 0b00010}, {1, 0, 0, 0, 0b01000},
            {2, 2, 1, 1, 0b00101}, {2, 1, 1, 1, 0b00010}, {2, 1, 1, 0, 0b10000}, {2, 2, 1, 0, 0},
            {3, 3, 1, 1, 0b00101}, {3, 2, 1, 1, 0b00010}, {3, 2, 0, 0, 0b10000}, {3, 1, 0, 0, 0}, {3, 2, 1, 0, 0},
            {4, 4, 1, 1, 0b00100}, {4, 4, 1, 0, 0b00001}, {4, 3, 1, 0, 0b00010}, {4, 2, 0, 0, 0b10000},
            {5, 5, 1, 1, 0b00100}, {5, 5, 1, 0, 0b00001}, {6, 6, 1, 0, 0b00101}, {6, 6, 1, 1, 0},
            {20, 20, 1, 0, 0b00101}, {20, 19, 1, 0, 0b00010}, {20, 0, 0, 0, 0b01000}, {20, 10, 0, 0, 0b10000},
            {19, 10, 0, 0, 0b10000}, {19, 9, 0, 0, 0}, {20, 20, 0, 0, 0},
        };
        for (int[] one : seen) {
            SownSeeds x = new SownSeeds();
            x.seen(one[0], one[1], one[2], one[3]);
            String call = "kinds() by seen(" + one[0] + ", " + one[1] + ", " + one[2] + ", " + one[3] + ")";
            c.due(call, x.kinds(), one[4]);
        }
    }

    private void askBest() {
        c.part("ASK: g (0 .. 12) by which these are parted best; of like ones the least");
        SownSeeds x = new SownSeeds();
        // By 4 each of the five answers otherwise; by 5 too, by fewer some are alike.
        c.due("ask(), all", x.ask(), 4);
        x.seen(0, 0, 1, 0);
        c.due("ask(), all but BARRED", x.ask(), 4);
        x.seen(1, 1, 1, 0);
        c.due("ask(), PLAIN, RICH, MEAN", x.ask(), 4);
        x.seen(6, 6, 1, 0);
        c.due("ask(), PLAIN, RICH", x.ask(), 4);
    }

    private void askNone() {
        c.part("ASK: none (none parts them)");
        int[][] one = {{4, 4, 1, 0}, {4, 3, 1, 0}, {4, 4, 1, 1}, {4, 0, 0, 0}, {4, 2, 0, 0}};
        for (int kind = 0; kind < 5; kind++) {
            SownSeeds x = new SownSeeds();
            x.seen(one[kind][0], one[kind][1], one[kind][2], one[kind][3]);
            c.due("kinds()", x.kinds(), 1 << kind);
            c.due("ask(), one KIND alone", x.ask(), NONE);
        }
        SownSeeds x = new SownSeeds();
        x.seen(4, 1, 0, 0);
        c.due("kinds()", x.kinds(), 0);
        c.due("ask(), no KIND", x.ask(), NONE);
    }
}
