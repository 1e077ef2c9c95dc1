/**
 * The edges that the document names of HOUSES and of THE TEXT, and those of promises 1 to 7:
 * a test for each sentence, which its part tells.
 */
public final class EdgesOfTextsTest {
    private static final int NONE = -1, UNKNOWN = -2, OUTSIDE = -3, NOT = -4, FULL = -5, NULL = -11;
    private static final int LEAST = Integer.MIN_VALUE, MOST = Integer.MAX_VALUE;
    private static final String[] WORDS_OF_KINDS = {"plain", "deep", "rich", "barred", "mean"};

    private final Checks c = new Checks();

    public static void main(String[] args) {
        EdgesOfTextsTest t = new EdgesOfTextsTest();
        t.houses();
        t.sides();
        t.nextOfTheLast();
        t.asAtFirst();
        t.lettersAtMost();
        t.clausesAtMost();
        t.clausesBetween();
        t.boardFrom2To5();
        t.boardPutsAllElseAsAtFirst();
        t.housesSuchAsThereAre();
        t.seedsFrom0To30();
        t.barnFrom0To99();
        t.barnOfSides();
        t.turnOfSides();
        t.smallLetters();
        t.digits();
        t.oneOrTwoDigits();
        t.blanksBetween();
        t.earlierTextsStay();
        t.wordsAsWritten();
        t.tokenThatCannotStand();
        t.endTooSoon();
        t.clausesInTheirOrder();
        t.behindThemAll();
        t.newObject();
        t.writeOutside();
        t.writeFull();
        t.eraseOfNothingAndOfAll();
        t.faultOrLengthOrNone();
        t.boardWithFault();
        t.boardTellsHowMany();
        t.houseRefuses();
        t.asRefuses();
        t.asNot();
        t.c.end();
    }

    private static String times(int n, String what) {
        return what.repeat(n);
    }

    private static String clauses(int n) {
        return "turn 0" + times(n - 1, ";turn 0");
    }

    private void faultOf(String text, int want) {
        faultOf(new SownSeeds(), text, want);
    }

    private void faultOf(SownSeeds x, String text, int want) {
        Checks.write(x, text);
        c.due("fault() of \"" + text + "\"", x.fault(), want);
        c.due("erase()", x.erase(), text.length());
    }

    // ---- 1

    private void houses() {
        c.part("HOUSES are 0 .. 2 h less 1 (h 2 .. 5; 3 at first)");
        c.due("count(0) at first", new SownSeeds().count(0), 6);
        for (int h = 2; h <= 5; h++) {
            SownSeeds x = c.told("board " + h);
            int last = 2 * h - 1;
            c.due("count(0)", x.count(0), 2 * h);
            c.due("house(-1, 1)", x.house(-1, 1), UNKNOWN);
            c.due("house(0, 1)", x.house(0, 1), 4);
            c.due("house(" + last + ", 1)", x.house(last, 1), 4);
            c.due("house(" + (last + 1) + ", 1)", x.house(last + 1, 1), UNKNOWN);
            c.due("as, the last", x.as(last, 0), 7);
            c.due("as, one behind the last", x.as(last + 1, 0), UNKNOWN);
            c.due("brings, the last", x.brings(last), NOT);
            c.due("brings, one behind the last", x.brings(last + 1), UNKNOWN);
            c.due("move, the last", x.move(last), NOT);
            c.due("move, one behind the last", x.move(last + 1), UNKNOWN);
            c.due("drop, the last", x.drop(last, 1), 5);
            c.due("drop, one behind the last", x.drop(last + 1, 1), UNKNOWN);
            c.due("swap, the last", x.swap(0, last), NOT);
            c.due("swap, one behind the last", x.swap(0, last + 1), UNKNOWN);
            x.box(0, 4);
            c.due("put, the last", x.put(0, 1, last), 1);
            c.due("put, one behind the last", x.put(0, 1, last + 1), UNKNOWN);
        }
    }

    private void sides() {
        c.part("those below h of SIDE 0, the others of SIDE 1");
        for (int h = 2; h <= 5; h++) {
            int side = (1 << h) - 1;
            SownSeeds x = c.told("board " + h);
            c.due("count(6)", x.count(6), side);
            c.holds("HOUSE h less 1 is of SIDE 0", x.brings(h - 1) >= 0);
            c.due("HOUSE h is not", x.brings(h), NOT);
            c.tell(x, "turn 1");
            c.due("count(6)", x.count(6), side << h);
            c.due("HOUSE h less 1 is not of SIDE 1", x.brings(h - 1), NOT);
            c.holds("HOUSE h is", x.brings(h) >= 0);
        }
    }

    private void nextOfTheLast() {
        c.part("the next of each is the one of the next number, of the last one 0");
        for (int h = 2; h <= 5; h++) {
            int last = 2 * h - 1;
            SownSeeds x = c.told("board " + h + ";turn 1;seeds " + last + " 2");
            c.due("move, the last", x.move(last), 0);
            c.due("the last", x.house(last, 1), 0);
            c.due("house(0, 1)", x.house(0, 1), 5);
            c.due("house(1, 1)", x.house(1, 1), 5);
            c.due("house(2, 1)", x.house(2, 1), 4);
            SownSeeds middle = c.told("board " + h + ";seeds " + (h - 1) + " 1");
            c.due("move, the last of SIDE 0", middle.move(h - 1), 0);
            c.due("the first of SIDE 1", middle.house(h, 1), 5);
            c.due("house(0, 1)", middle.house(0, 1), 4);
        }
    }

    private void asAtFirst() {
        c.part("PLAIN (as at first), SEEDS 4 at first, BARN 0 at first, TURN 0 at first");
        for (int h = 2; h <= 5; h++) {
            SownSeeds x = c.told("board " + h);
            for (int house = 0; house < 2 * h; house++) {
                c.due("house(" + house + ", 0)", x.house(house, 0), 0);
                c.due("house(" + house + ", 1)", x.house(house, 1), 4);
            }
            c.due("count(2)", x.count(2), 0);
            c.due("count(3)", x.count(3), 0);
            c.due("count(4)", x.count(4), 0);
        }
    }

    // ---- THE TEXT

    private void lettersAtMost() {
        c.part("THE TEXT is a row of letters, 200 at most");
        faultOf("turn 1" + times(194, " "), NONE);
        faultOf(times(194, " ") + "turn 1", NONE);
        faultOf(times(195, " ") + "turn ", 200);
        faultOf(times(196, " ") + "turn", 200);
        faultOf(times(197, " ") + "tur", 197);
        faultOf(times(200, " "), 200);
        faultOf("turn " + times(195, "1"), 5);
        faultOf(times(200, "t"), 0);
        SownSeeds x = new SownSeeds();
        Checks.write(x, times(194, " ") + "turn 1");
        c.due("write, the 201st", x.write('1'), FULL);
        c.due("fault(), the 201st is not there", x.fault(), NONE);
        c.due("board()", x.board(), 1);
        c.due("count(2)", x.count(2), 1);
    }

    private void clausesAtMost() {
        c.part("CLAUSES with ; between, 24 at most");
        int end = clauses(24).length();
        faultOf(clauses(23), NONE);
        faultOf(clauses(24), NONE);
        faultOf(clauses(24) + " ", NONE);
        faultOf(clauses(23) + ";", clauses(23).length() + 1);
        faultOf(clauses(24) + ";", end);
        faultOf(clauses(25), end);
        faultOf(clauses(24) + " ;turn 0", end + 1);
        faultOf(clauses(24) + " turn 0", end + 1);
        SownSeeds x = new SownSeeds();
        Checks.write(x, clauses(25));
        c.due("board() of 25", x.board(), NOT);
        x.erase();
        Checks.write(x, clauses(24));
        c.due("board() of 24", x.board(), 24);
    }

    private void clausesBetween() {
        c.part("CLAUSES with ; between");
        faultOf(";", 0);
        faultOf(" ;", 1);
        faultOf(";turn 0", 0);
        faultOf("turn 0;", 7);
        faultOf("turn 0;;turn 0", 7);
        faultOf("turn 0; ;turn 0", 8);
        faultOf("turn 0 turn 0", 7);
        faultOf("turn 0turn 0", 6);
        faultOf("turn 0,turn 0", 6);
    }

    private void boardFrom2To5() {
        c.part("board: h is H, 2 to 5");
        faultOf("board 0", 6);
        faultOf("board 1", 6);
        faultOf("board 2", NONE);
        faultOf("board 5", NONE);
        faultOf("board 05", NONE);
        faultOf("board 6", 6);
        faultOf("board 10", 6);
        faultOf("board 99", 6);
        faultOf("board 22", 6);
    }

    private void boardPutsAllElseAsAtFirst() {
        c.part("board: all else as at first");
        SownSeeds x = c.told("deep 0;rich 1;barred 3;mean 5;seeds 0 9;seeds 5 0;barn 0 5;barn 1 6;turn 1");
        c.tell(x, "board 3");
        c.kinds(x, 0, 0, 0, 0, 0, 0);
        c.seeds(x, 4, 4, 4, 4, 4, 4);
        c.due("count(2)", x.count(2), 0);
        c.due("count(3)", x.count(3), 0);
        c.due("count(4)", x.count(4), 0);
        SownSeeds wide = c.told("board 5;mean 9;seeds 9 0;board 2");
        c.tell(wide, "board 5");
        c.kinds(wide, 0, 0, 0, 0, 0, 0, 0, 0, 0, 0);
        c.seeds(wide, 4, 4, 4, 4, 4, 4, 4, 4, 4, 4);
    }

    private void housesSuchAsThereAre() {
        c.part("HOUSE K, such as there is");
        for (int h = 2; h <= 5; h++) {
            SownSeeds x = c.told("board " + h);
            int last = 2 * h - 1;
            for (String word : WORDS_OF_KINDS) {
                faultOf(x, word + " 0", NONE);
                faultOf(x, word + " " + last, NONE);
                faultOf(x, word + " " + (last + 1), word.length() + 1);
                faultOf(x, word + " 99", word.length() + 1);
            }
            faultOf(x, "seeds 0 4", NONE);
            faultOf(x, "seeds " + last + " 4", NONE);
            faultOf(x, "seeds " + (last + 1) + " 4", 6);
        }
        c.part("HOUSE K, such as there is by the CLAUSES ahead of it");
        faultOf("board 5;deep 9", NONE);
        faultOf("deep 9;board 5", 5);
        faultOf("board 2;deep 4", 13);
        faultOf("board 5;board 2;seeds 4 1", 22);
    }

    private void seedsFrom0To30() {
        c.part("seeds: HOUSE K has N SEEDS, 0 to 30");
        faultOf("seeds 0 31", 8);
        faultOf("seeds 0 99", 8);
        faultOf("seeds 0 100", 8);
        SownSeeds x = c.told("seeds 0 0;seeds 1 30;seeds 2 00;seeds 3 07");
        c.seeds(x, 0, 30, 0, 7, 4, 4);
    }

    private void barnFrom0To99() {
        c.part("barn: has N in its BARN, 0 to 99");
        faultOf("barn 0 100", 7);
        faultOf("barn 1 099", 7);
        SownSeeds x = c.told("barn 0 99;barn 1 98");
        c.due("count(3)", x.count(3), 99);
        c.due("count(4)", x.count(4), 98);
        c.tell(x, "barn 0 0");
        c.due("count(3)", x.count(3), 0);
        c.due("count(4)", x.count(4), 98);
    }

    private void barnOfSides() {
        c.part("barn: SIDE S, 0 or 1");
        faultOf("barn 0 1", NONE);
        faultOf("barn 1 1", NONE);
        faultOf("barn 2 1", 5);
        faultOf("barn 10 1", 5);
        SownSeeds x = c.told("barn 1 7");
        c.due("count(3)", x.count(3), 0);
        c.due("count(4)", x.count(4), 7);
    }

    private void turnOfSides() {
        c.part("turn: it is the TURN of SIDE S");
        faultOf("turn 0", NONE);
        faultOf("turn 1", NONE);
        faultOf("turn 2", 5);
        faultOf("turn 11", 5);
        SownSeeds x = c.told("turn 1");
        c.due("count(2)", x.count(2), 1);
        c.tell(x, "turn 0");
        c.due("count(2)", x.count(2), 0);
    }

    private void smallLetters() {
        c.part("small letters a .. z");
        faultOf("Turn 1", 0);
        faultOf("tuRn 1", 0);
        faultOf("turN 1", 0);
        faultOf("turna 1", 0);
        faultOf("turnz 1", 0);
        faultOf("zturn 1", 0);
        faultOf("aturn 1", 0);
        // The signs beside a and z are TOKENS of their own.
        faultOf("turn" + (char) ('a' - 1) + "1", 4);
        faultOf("turn" + (char) ('z' + 1) + "1", 4);
        faultOf((char) ('a' - 1) + "turn 1", 0);
        faultOf((char) ('z' + 1) + "turn 1", 0);
    }

    private void digits() {
        c.part("a row of digits");
        faultOf("barn 1 90", NONE);
        faultOf("barn 1 09", NONE);
        faultOf("barn 1 9" + (char) ('0' - 1), 8);
        faultOf("barn 1 0" + (char) ('9' + 1), 8);
        faultOf("barn 1 " + (char) ('0' - 1) + "9", 7);
        faultOf("barn 1 " + (char) ('9' + 1) + "9", 7);
        faultOf("barn 1 -1", 7);
        faultOf("barn 1 +1", 7);
        faultOf("barn 1 9a", 8);
        faultOf("barn 1 a9", 7);
    }

    private void oneOrTwoDigits() {
        c.part("numbers of 1 or 2 digits (of more digits, also)");
        faultOf("turn 1", NONE);
        faultOf("turn 01", NONE);
        faultOf("turn 001", 5);
        faultOf("turn 000", 5);
        faultOf("seeds 000 1", 6);
        faultOf("seeds 0 001", 8);
        faultOf("barn 1 0000000001", 7);
        // Of so many digits that they would wrap round to 0 or 1 in 32 or 64 bits.
        faultOf("turn 4294967296", 5);
        faultOf("turn 4294967297", 5);
        faultOf("turn 18446744073709551617", 5);
    }

    private void blanksBetween() {
        c.part("blanks between");
        faultOf("  seeds  5  30  ;  turn  1  ", NONE);
        faultOf("seeds 5 30;turn 1", NONE);
        faultOf("seeds5 30;turn1", NONE);
        faultOf("tu rn 1", 0);
        faultOf("barn 1 3 0", 9);
        faultOf("seeds 530", 6);
        faultOf("turn\t1", 4);
        faultOf("turn\n1", 4);
        faultOf("turn" + (char) 31 + "1", 4);
        faultOf("turn" + (char) 33 + "1", 4);
        faultOf("turn" + (char) 160 + "1", 4);
        faultOf("turn" + (char) 0 + "1", 4);
    }

    private void earlierTextsStay() {
        c.part("what earlier texts told stays as it was told");
        SownSeeds x = c.told("board 2;deep 0;seeds 1 9;barn 0 5;turn 1");
        c.tell(x, "rich 3");
        c.kinds(x, 1, 0, 0, 2);
        c.seeds(x, 4, 9, 4, 4);
        c.due("count(2)", x.count(2), 1);
        c.due("count(3)", x.count(3), 5);
        // A text that is erased, or that has a FAULT, told nothing.
        Checks.write(x, "seeds 0 0");
        x.erase();
        Checks.write(x, "seeds 2 0;");
        c.due("board()", x.board(), NOT);
        x.erase();
        c.tell(x, "seeds 3 1");
        c.seeds(x, 4, 9, 4, 1);
    }

    private void wordsAsWritten() {
        c.part("each is one of: board H. plain K. .. turn S. (As written here)");
        String[] whole = {"board 3", "plain 1", "deep 1", "rich 1", "barred 1", "mean 1", "seeds 1 1", "barn 1 1", "turn 1"};
        for (String clause : whole) {
            int end = clause.indexOf(' ');
            faultOf(clause, NONE);
            faultOf(clause.substring(1), 0);
            faultOf(clause.substring(0, end - 1) + clause.substring(end), 0);
            // Each letter matters, the first and the last too.
            for (int n = 0; n < end; n++) {
                faultOf(clause.substring(0, n) + 'q' + clause.substring(n + 1), 0);
            }
            faultOf(clause + ".", clause.length());
        }
    }

    private void tokenThatCannotStand() {
        c.part("A FAULT is at the first TOKEN that cannot stand there");
        faultOf("1", 0);
        faultOf("house 1", 0);
        faultOf("turn turn", 5);
        faultOf("turn ;", 5);
        faultOf("turn 0 0", 7);
        faultOf("seeds ; 1", 6);
        faultOf("seeds 1 ;", 8);
        faultOf("seeds 1 turn", 8);
        faultOf("seeds 1 1 1", 10);
        faultOf("barn 0 0 0", 9);
        faultOf("plain 0 0", 8);
        // Of several the first one.
        faultOf("seeds 6 31;turn 2", 6);
        faultOf("seeds 5 31;turn 2", 8);
        faultOf("seeds 5 30;turn 2", 16);
        faultOf("?turn 2", 0);
    }

    private void endTooSoon() {
        c.part("or at the end, if it comes too soon");
        String text = "seeds 3 12;turn 1";
        int[] want = {0, 0, 0, 0, 0, 5, 6, 7, 8, NONE, NONE, 11, 11, 11, 11, 15, 16, NONE};
        for (int length = 0; length <= text.length(); length++) {
            faultOf(text.substring(0, length), want[length]);
        }
        for (String word : WORDS_OF_KINDS) {
            faultOf(word, word.length());
            faultOf(word + " ", word.length() + 1);
        }
        faultOf("board", 5);
        faultOf("barn", 4);
        faultOf("barn 1", 6);
        faultOf("barn 1 ", 7);
    }

    private void clausesInTheirOrder() {
        c.part("CLAUSES are done in their order");
        SownSeeds x = c.told("seeds 0 1;seeds 0 2;deep 0;rich 0;barn 1 3;barn 1 4;turn 0;turn 1");
        c.due("house(0, 1)", x.house(0, 1), 2);
        c.due("house(0, 0)", x.house(0, 0), 2);
        c.due("count(4)", x.count(4), 4);
        c.due("count(2)", x.count(2), 1);
        SownSeeds y = c.told("seeds 0 1;board 2;seeds 1 2");
        c.seeds(y, 4, 2, 4, 4);
    }

    private void behindThemAll() {
        c.part("Behind them all is as told, there were 0 MOVES, nothing is SEEN, nothing is kept or can be undone");
        SownSeeds x = c.told("deep 0;seeds 1 9;barn 0 5");
        x.drop(0, 30);
        x.swap(0, 5);
        x.move(1);
        x.keep(0);
        x.keep(1);
        x.seen(0, 0, 0, 0);
        x.box(0, 1);
        x.box(4, 1);
        x.put(0, 2, 4);
        c.tell(x, "seeds 2 3");
        c.kinds(x, 1, 0, 0, 0, 0, 0);
        c.seeds(x, 4, 9, 3, 4, 4, 4);
        c.due("count(1)", x.count(1), 0);
        c.due("count(2)", x.count(2), 0);
        c.due("count(3)", x.count(3), 5);
        c.due("count(4)", x.count(4), 0);
        c.due("count(7)", x.count(7), 0);
        c.due("kinds()", x.kinds(), 31);
        c.due("back(0)", x.back(0), NOT);
        c.due("back(1)", x.back(1), NOT);
        c.due("count(9)", x.count(9), 0);
        c.due("undo()", x.undo(), NOT);
        c.part("BOXES are all missing");
        c.due("count(8)", x.count(8), 0);
        for (int box = 0; box < 5; box++) {
            c.due("lose(" + box + ")", x.lose(box), NULL);
        }
        x.box(1, 1);
        x.box(4, 1);
        c.due("put(1, 2, 4), which lies in none", x.put(1, 2, 4), 1);
    }

    // ---- promises 1 to 7

    private void newObject() {
        c.part("promise 1: Three houses a side, four seeds in each");
        SownSeeds x = new SownSeeds();
        c.seeds(x, 4, 4, 4, 4, 4, 4);
        c.due("count(5)", x.count(5), 24);
        c.due("count(6)", x.count(6), 0b000111);
        c.due("house(6, 0)", x.house(6, 0), UNKNOWN);
        c.due("count(10)", x.count(10), 0);
        c.due("undo()", x.undo(), NOT);
        c.due("back(0)", x.back(0), NOT);
        c.due("back(1)", x.back(1), NOT);
        c.due("count(8)", x.count(8), 0);
    }

    private void writeOutside() {
        c.part("promise 2: its number, 0 .. 255; OUTSIDE");
        SownSeeds x = new SownSeeds();
        c.due("write(-1)", x.write(-1), OUTSIDE);
        c.due("write(256)", x.write(256), OUTSIDE);
        c.due("write(least)", x.write(LEAST), OUTSIDE);
        c.due("write(most)", x.write(MOST), OUTSIDE);
        // By its lowest bits it would be a letter.
        c.due("write(256 + 97)", x.write(256 + 'a'), OUTSIDE);
        c.due("write(65536 + 97)", x.write(65536 + 'a'), OUTSIDE);
        c.due("count(10)", x.count(10), 0);
        c.due("write(0)", x.write(0), 1);
        c.due("write(255)", x.write(255), 2);
    }

    private void writeFull() {
        c.part("promise 2: FULL");
        SownSeeds x = new SownSeeds();
        for (int n = 1; n <= 200; n++) {
            c.due("write(97)", x.write('a'), n);
        }
        c.due("write(97)", x.write('a'), FULL);
        c.due("count(10)", x.count(10), 200);
        c.due("write(-1), of OUTSIDE and FULL", x.write(-1), OUTSIDE);
        c.due("write(256), of OUTSIDE and FULL", x.write(256), OUTSIDE);
        c.due("erase()", x.erase(), 200);
        c.due("write(97)", x.write('a'), 1);
    }

    private void eraseOfNothingAndOfAll() {
        c.part("promise 3: THE TEXT is empty: how many letters it had");
        SownSeeds x = new SownSeeds();
        c.due("erase()", x.erase(), 0);
        x.write('t');
        c.due("erase()", x.erase(), 1);
        c.due("erase()", x.erase(), 0);
        Checks.write(x, times(200, " "));
        c.due("erase()", x.erase(), 200);
        c.due("count(10)", x.count(10), 0);
        // What was written ahead of it is no part of the next text.
        Checks.write(x, "turn 1");
        x.erase();
        Checks.write(x, "turn");
        c.due("fault()", x.fault(), 4);
        x.erase();
        c.tell(x, "turn 1");
        c.due("erase() behind board()", x.erase(), 0);
    }

    private void faultOrLengthOrNone() {
        c.part("promise 4: the letter with which the TOKEN begins, or the length; NONE");
        faultOf("", 0);
        faultOf(" ", 1);
        faultOf("turn 1;   turnip", 10);
        faultOf("turn 1;turn   22", 14);
        faultOf("turn 1;turn   ", 14);
        faultOf("turn 1", NONE);
    }

    private void boardWithFault() {
        c.part("promise 5: NOT: it has a FAULT");
        SownSeeds x = new SownSeeds();
        c.due("board() of the empty text", x.board(), NOT);
        Checks.write(x, "board 2;deep 0;seeds 1 9;barn 1 3;turn 1;");
        c.due("board()", x.board(), NOT);
        c.due("count(10)", x.count(10), 41);
        c.kinds(x, 0, 0, 0, 0, 0, 0);
        c.seeds(x, 4, 4, 4, 4, 4, 4);
        c.due("count(2)", x.count(2), 0);
        c.due("count(4)", x.count(4), 0);
        c.due("fault()", x.fault(), 41);
        Checks.write(x, "turn 0");
        c.due("board(), now without one", x.board(), 6);
        c.seeds(x, 4, 9, 4, 4);
        c.part("promise 4: what a text would tell is not told by its FAULT");
        SownSeeds y = new SownSeeds();
        faultOf(y, "board 5;deep 9;", 15);
        faultOf(y, "board 5;deep 9", NONE);
        faultOf(y, "deep 9", 5);
        Checks.write(y, "board 5;");
        c.due("board()", y.board(), NOT);
        y.erase();
        faultOf(y, "deep 9", 5);
    }

    private void boardTellsHowMany() {
        c.part("promise 5: it is empty then: how many there were");
        SownSeeds x = new SownSeeds();
        Checks.write(x, "turn 1");
        c.due("board() of 1", x.board(), 1);
        c.due("count(10)", x.count(10), 0);
        c.due("board() once more", x.board(), NOT);
        Checks.write(x, clauses(24));
        c.due("board() of 24", x.board(), 24);
        c.due("count(10)", x.count(10), 0);
        c.due("write(97)", x.write('a'), 1);
    }

    private void houseRefuses() {
        c.part("promise 6: UNKNOWN; OUTSIDE");
        SownSeeds x = new SownSeeds();
        c.due("house(-1, 0)", x.house(-1, 0), UNKNOWN);
        c.due("house(6, 0)", x.house(6, 0), UNKNOWN);
        c.due("house(least, 0)", x.house(LEAST, 0), UNKNOWN);
        c.due("house(most, 0)", x.house(MOST, 0), UNKNOWN);
        c.due("house(0, -1)", x.house(0, -1), OUTSIDE);
        c.due("house(5, 5)", x.house(5, 5), OUTSIDE);
        c.due("house(0, least)", x.house(0, LEAST), OUTSIDE);
        c.due("house(0, most)", x.house(0, MOST), OUTSIDE);
        c.due("house(6, 5), of UNKNOWN and OUTSIDE", x.house(6, 5), UNKNOWN);
        c.due("house(-1, -1), of UNKNOWN and OUTSIDE", x.house(-1, -1), UNKNOWN);
    }

    private void asRefuses() {
        c.part("promise 7: UNKNOWN; OUTSIDE");
        SownSeeds x = new SownSeeds();
        c.due("as(-1, 0)", x.as(-1, 0), UNKNOWN);
        c.due("as(6, 0)", x.as(6, 0), UNKNOWN);
        c.due("as(least, 0)", x.as(LEAST, 0), UNKNOWN);
        c.due("as(0, -1)", x.as(0, -1), OUTSIDE);
        c.due("as(0, 6)", x.as(0, 6), OUTSIDE);
        // Shifts count by their lowest five bits.
        c.due("as(0, 32)", x.as(0, 32), OUTSIDE);
        c.due("as(0, 33)", x.as(0, 33), OUTSIDE);
        c.due("as(0, least)", x.as(0, LEAST), OUTSIDE);
        c.due("as(6, 6), of UNKNOWN and OUTSIDE", x.as(6, 6), UNKNOWN);
    }

    private void asNot() {
        c.part("promise 7: NOT: it is none such");
        SownSeeds x = c.told("deep 1;rich 2;barred 3;mean 4");
        int[][] want = {
            {7, 7, NOT, NOT, NOT, NOT},
            {6, 6, 6, NOT, NOT, NOT},
            {7, 7, NOT, 7, NOT, NOT},
            {0, NOT, NOT, NOT, 0, NOT},
            {4, NOT, NOT, NOT, 4, 4},
        };
        for (int house = 0; house < 5; house++) {
            for (int kind = 0; kind < 6; kind++) {
                c.due("as(" + house + ", " + kind + ")", x.as(house, kind), want[house][kind]);
            }
        }
        c.part("promise 7: of 7 SEEDS, whatever lies in it");
        x.drop(1, 30);
        c.due("as(1, 1)", x.as(1, 1), 6);
        SownSeeds none = c.told("seeds 0 0;mean 1;seeds 1 0");
        c.due("as(0, 0)", none.as(0, 0), 7);
        c.due("as(1, 5)", none.as(1, 5), 4);
    }
}
