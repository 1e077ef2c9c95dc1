/**
 * Seeds sown round a board, told in texts, played by turns, foretold; and boxes in boxes.
 * Words in capitals in the comments are those of the document's Terms.
 */
public final class SownSeeds {
    public static final int NONE = -1, UNKNOWN = -2, OUTSIDE = -3, NOT = -4, FULL = -5, NULL = -11, EMPTY = -12, CAST = -13, ROOM = -14, LOOP = -15, SIZE = -16;

    private static final int MOST_MOVES = 999;
    private static final int MOST_UNDONE = 8;
    private static final int KEEPS = 2;
    private static final int LEAD_ZERO = 5000;
    private static final int SEEDS_TAKEN_AS = 7;

    // What the texts told is held beside the board in play: a new text goes on from what was told, not from what was played.
    private final Board told = new Board();
    private final Board draft = new Board();
    private final Board now = new Board();
    private final Board[] past = new Board[MOST_UNDONE];
    private final Board[] kept = new Board[KEEPS];
    private final boolean[] isKept = new boolean[KEEPS];
    private final Text text = new Text();
    private final Foresight foresight = new Foresight();
    private final Sightings sightings = new Sightings();
    private final Boxes boxes = new Boxes();
    private int undoable = 0;

    public SownSeeds() {
        for (int n = 0; n < MOST_UNDONE; n++) {
            past[n] = new Board();
        }
        for (int k = 0; k < KEEPS; k++) {
            kept[k] = new Board();
        }
    }

    // ---- what is told

    public int write(int letter) {
        if (!isWithin(letter, 0, 255)) {
            return OUTSIDE;
        }
        return text.add(letter) ? text.length() : FULL;
    }

    public int erase() {
        int had = text.length();
        text.clear();
        return had;
    }

    public int fault() {
        draft.copy(told);
        return text.read(draft);
    }

    public int board() {
        draft.copy(told);
        if (text.read(draft) != NONE) {
            return NOT;
        }
        told.copy(draft);
        now.copy(told);
        undoable = 0;
        for (int k = 0; k < KEEPS; k++) {
            isKept[k] = false;
        }
        sightings.clear();
        boxes.clear();
        text.clear();
        return text.clauses();
    }

    public int house(int house, int what) {
        if (!now.has(house)) {
            return UNKNOWN;
        }
        switch (what) {
            case 0:
                return now.kind(house);
            case 1:
                return now.seeds(house);
            case 2:
                return now.lifted(house);
            case 3:
                return now.takes(house) ? 1 : 0;
            case 4:
                return now.yields(house) ? 1 : 0;
            default:
                return OUTSIDE;
        }
    }

    public int as(int house, int kind) {
        if (!now.has(house)) {
            return UNKNOWN;
        }
        if (!isWithin(kind, 0, Kind.LAST_OVER)) {
            return OUTSIDE;
        }
        // A HOUSE stays what it is, whatever it is taken as.
        return Kind.isUnder(now.kind(house), kind) ? Kind.lifted(now.kind(house), SEEDS_TAKEN_AS) : NOT;
    }

    // ---- what is done

    public int move(int house) {
        if (!now.has(house)) {
            return UNKNOWN;
        }
        if (!now.goes(house)) {
            return NOT;
        }
        if (now.moves() >= MOST_MOVES) {
            return FULL;
        }
        remember();
        return now.sow(house);
    }

    public int drop(int house, int n) {
        if (!now.has(house)) {
            return UNKNOWN;
        }
        if (!isWithin(n, 1, 30)) {
            return OUTSIDE;
        }
        if (now.seeds(house) >= Kind.MOST_SEEDS) {
            return NOT;
        }
        remember();
        now.give(house, n);
        return now.seeds(house);
    }

    public int swap(int house, int other) {
        if (!now.has(house) || !now.has(other) || house == other) {
            return UNKNOWN;
        }
        if (now.kind(house) == now.kind(other)) {
            return NOT;
        }
        remember();
        now.exchangeKinds(house, other);
        return now.kind(house);
    }

    public int undo() {
        if (undoable <= 0) {
            return NOT;
        }
        undoable--;
        now.copy(past[undoable]);
        return undoable;
    }

    public int keep(int k) {
        if (!isWithin(k, 0, KEEPS - 1)) {
            return UNKNOWN;
        }
        kept[k].copy(now);
        isKept[k] = true;
        return now.moves();
    }

    public int back(int k) {
        if (!isWithin(k, 0, KEEPS - 1)) {
            return UNKNOWN;
        }
        if (!isKept[k]) {
            return NOT;
        }
        now.copy(kept[k]);
        undoable = 0;
        return now.moves();
    }

    // ---- foretold

    public int brings(int house) {
        if (!now.has(house)) {
            return UNKNOWN;
        }
        return now.goes(house) ? foresight.broughtBy(now, house) : NOT;
    }

    public int best(int d, int k) {
        if (!isWithin(d, 1, Foresight.MOST_AHEAD) || !isWithin(k, NONE, Foresight.MOST_AHEAD - 1)) {
            return OUTSIDE;
        }
        return k == NONE ? LEAD_ZERO + foresight.bestLead(now, d) : foresight.lineMove(now, d, k);
    }

    public int rash(int n) {
        if (!isWithin(n, 0, 40)) {
            return OUTSIDE;
        }
        return LEAD_ZERO + foresight.rashBoard(now, n).lead(0);
    }

    public int over() {
        Board end = foresight.rashBoard(now, 60);
        return end.goingBits() == 0 ? end.moves() - now.moves() : NONE;
    }

    public int gift(int d) {
        if (!isWithin(d, 1, 4)) {
            return OUTSIDE;
        }
        return foresight.bestGift(now, d);
    }

    public int luck(int n, int part) {
        if (!isWithin(n, 1, Foresight.MOST_LUCK) || !isWithin(part, 0, 1)) {
            return OUTSIDE;
        }
        return foresight.odds(now, n, part);
    }

    // ---- what was seen

    public int seen(int g, int l, int takes, int yields) {
        if (!isWithin(g, 0, 20) || !isWithin(l, 0, 20) || !isWithin(takes, 0, 1) || !isWithin(yields, 0, 1)) {
            return OUTSIDE;
        }
        return sightings.add(g, l, takes == 1, yields == 1) ? sightings.size() : FULL;
    }

    public int forget() {
        int had = sightings.size();
        sightings.clear();
        return had;
    }

    public int kinds() {
        return sightings.possible();
    }

    public int ask() {
        return sightings.question();
    }

    // ---- boxes

    public int box(int box, int n) {
        if (!boxes.has(box)) {
            return UNKNOWN;
        }
        if (n > Box.MOST_ROOM) {
            return OUTSIDE;
        }
        if (n < 0) {
            return SIZE;
        }
        boxes.make(box, n);
        return n;
    }

    public int put(int box, int what, int v) {
        boolean isUnknownHouse = what == Box.HOUSE && !now.has(v);
        boolean isUnknownBox = what == Box.BOX && !boxes.has(v);
        if (!boxes.has(box) || isUnknownHouse || isUnknownBox) {
            return UNKNOWN;
        }
        boolean isWildNumber = what == Box.NUMBER && !isWithin(v, -9999, 9999);
        if (!isWithin(what, 0, Box.BOX) || isWildNumber) {
            return OUTSIDE;
        }
        return boxes.lay(box, what, v);
    }

    public int take(int box, int what) {
        if (!boxes.has(box)) {
            return UNKNOWN;
        }
        if (!isWithin(what, 0, Box.BOX)) {
            return OUTSIDE;
        }
        return boxes.lift(box, what);
    }

    public int spill(int box) {
        return boxes.has(box) ? boxes.pour(box) : UNKNOWN;
    }

    public int deep(int box, int what) {
        if (!boxes.has(box)) {
            return UNKNOWN;
        }
        if (!isWithin(what, 0, 4)) {
            return OUTSIDE;
        }
        return boxes.isThere(box) ? boxes.throughout(box, what) : NULL;
    }

    public int alike(int box, int other) {
        if (!boxes.has(box) || !boxes.has(other)) {
            return UNKNOWN;
        }
        if (!boxes.isThere(box) || !boxes.isThere(other)) {
            return NULL;
        }
        return boxes.holdSame(box, other) ? 1 : 0;
    }

    public int lose(int box) {
        if (!boxes.has(box)) {
            return UNKNOWN;
        }
        return boxes.isThere(box) ? boxes.remove(box) : NULL;
    }

    public int count(int what) {
        switch (what) {
            case 0:
                return now.houses();
            case 1:
                return now.moves();
            case 2:
                return now.turn();
            case 3:
                return now.barn(0);
            case 4:
                return now.barn(1);
            case 5:
                return now.allSeeds();
            case 6:
                return now.goingBits();
            case 7:
                return sightings.size();
            case 8:
                return boxes.thereBits();
            case 9:
                return undoable;
            case 10:
                return text.length();
            default:
                return OUTSIDE;
        }
    }

    private static boolean isWithin(int number, int least, int most) {
        return number >= least && number <= most;
    }

    // The boards of the past are used again, the oldest first, so that no call makes a new one.
    private void remember() {
        if (undoable >= MOST_UNDONE) {
            Board oldest = past[0];
            for (int n = 1; n < MOST_UNDONE; n++) {
                past[n - 1] = past[n];
            }
            past[MOST_UNDONE - 1] = oldest;
            undoable = MOST_UNDONE - 1;
        }
        past[undoable].copy(now);
        undoable++;
    }

    /** What the KINDS of HOUSES do. */
    private static final class Kind {
        static final int PLAIN = 0, DEEP = 1, RICH = 2, BARRED = 3, MEAN = 4;
        static final int KINDS = 5;
        static final int MOST_SEEDS = 99;
        static final int LAST_OVER = 5;

        // By KIND: what it can be taken as, a bit each for HOUSE, PLAIN, DEEP, RICH, BARRED, MEAN from the lowest on.
        private static final int[] OVER = {0b000011, 0b000111, 0b001011, 0b010001, 0b110001};

        private Kind() {
        }

        static boolean isUnder(int kind, int over) {
            return isWithin(kind, 0, KINDS - 1) && isWithin(over, 0, LAST_OVER) && (OVER[kind] >> over & 1) == 1;
        }

        static int lifted(int kind, int seeds) {
            switch (kind) {
                case DEEP:
                    return seeds > 0 ? seeds - 1 : 0;
                case BARRED:
                    return 0;
                case MEAN:
                    return (seeds + 1) / 2;
                default:
                    return seeds;
            }
        }

        static boolean takes(int kind, int seeds) {
            switch (kind) {
                case BARRED:
                    return false;
                case MEAN:
                    return seeds <= 2;
                default:
                    return seeds < MOST_SEEDS;
            }
        }

        static boolean yields(int kind, int seeds) {
            switch (kind) {
                case BARRED:
                case MEAN:
                    return false;
                case RICH:
                    return seeds >= 2 && seeds <= 5;
                default:
                    return seeds >= 2 && seeds <= 3;
            }
        }
    }

    /** The HOUSES, the BARNS, the TURN and how many MOVES there were. Callers hand in HOUSES that it has. */
    private static final class Board {
        static final int LEAST_WIDTH = 2, MOST_WIDTH = 5;
        private static final int FIRST_WIDTH = 3, FIRST_SEEDS = 4, SIDES = 2;

        private final int[] kind = new int[SIDES * MOST_WIDTH];
        private final int[] seeds = new int[SIDES * MOST_WIDTH];
        private final int[] barn = new int[SIDES];
        private int width;
        private int turn;
        private int moves;

        Board() {
            setUp(FIRST_WIDTH);
        }

        void setUp(int newWidth) {
            width = Math.max(LEAST_WIDTH, Math.min(newWidth, MOST_WIDTH));
            for (int house = 0; house < SIDES * MOST_WIDTH; house++) {
                kind[house] = Kind.PLAIN;
                seeds[house] = FIRST_SEEDS;
            }
            barn[0] = 0;
            barn[1] = 0;
            turn = 0;
            moves = 0;
        }

        void copy(Board other) {
            System.arraycopy(other.kind, 0, kind, 0, SIDES * MOST_WIDTH);
            System.arraycopy(other.seeds, 0, seeds, 0, SIDES * MOST_WIDTH);
            barn[0] = other.barn[0];
            barn[1] = other.barn[1];
            width = other.width;
            turn = other.turn;
            moves = other.moves;
        }

        int houses() {
            return SIDES * width;
        }

        boolean has(int house) {
            return house >= 0 && house < houses();
        }

        int sideOf(int house) {
            return house < width ? 0 : 1;
        }

        int moves() {
            return moves;
        }

        int turn() {
            return turn;
        }

        int barn(int side) {
            return barn[side];
        }

        int lead(int side) {
            return side == 0 ? barn[0] - barn[1] : barn[1] - barn[0];
        }

        int kind(int house) {
            return kind[house];
        }

        int seeds(int house) {
            return seeds[house];
        }

        int lifted(int house) {
            return Kind.lifted(kind[house], seeds[house]);
        }

        boolean takes(int house) {
            return Kind.takes(kind[house], seeds[house]);
        }

        boolean yields(int house) {
            return Kind.yields(kind[house], seeds[house]);
        }

        boolean goes(int house) {
            return sideOf(house) == turn && lifted(house) >= 1;
        }

        int goingBits() {
            int bits = 0;
            for (int house = 0; house < houses(); house++) {
                bits |= goes(house) ? 1 << house : 0;
            }
            return bits;
        }

        int allSeeds() {
            int sum = 0;
            for (int house = 0; house < houses(); house++) {
                sum += seeds[house];
            }
            return sum;
        }

        void setKind(int house, int newKind) {
            kind[house] = newKind;
        }

        void setSeeds(int house, int number) {
            seeds[house] = number;
        }

        void setBarn(int side, int number) {
            barn[side] = number;
        }

        void setTurn(int side) {
            turn = side;
        }

        void give(int house, int more) {
            seeds[house] = Math.min(seeds[house] + more, Kind.MOST_SEEDS);
        }

        void exchangeKinds(int house, int other) {
            int first = kind[house];
            kind[house] = kind[other];
            kind[other] = first;
        }

        /** A MOVE from a HOUSE that GOES: how many SEEDS it brings. */
        int sow(int house) {
            int before = barn[turn];
            int last = spread(house);
            if (last != NONE) {
                reap(last);
            }
            int brought = barn[turn] - before;
            turn = 1 - turn;
            moves++;
            return brought;
        }

        private int spread(int house) {
            int hand = lifted(house);
            seeds[house] -= hand;
            int at = house;
            for (; hand > 0; hand--) {
                int taker = nextTaker(at, house);
                if (taker == NONE) {
                    barn[turn] += hand;
                    return NONE;
                }
                seeds[taker]++;
                at = taker;
            }
            return at;
        }

        private int nextTaker(int from, int start) {
            int at = from;
            int houses = houses();
            for (int n = 0; n < houses; n++) {
                at = at + 1 < houses ? at + 1 : 0;
                if (at != start && Kind.takes(kind[at], seeds[at])) {
                    return at;
                }
            }
            return NONE;
        }

        private void reap(int last) {
            int at = last;
            for (int n = 0; n < width && sideOf(at) != turn && yields(at); n++) {
                barn[turn] += seeds[at];
                seeds[at] = 0;
                at = at > 0 ? at - 1 : houses() - 1;
            }
        }
    }

    /** THE TEXT, and its reading, TOKEN by TOKEN. */
    private static final class Text {
        private static final int MOST_LETTERS = 200, MOST_CLAUSES = 24, MOST_DIGITS = 2;
        // The words of the KINDS have the KINDS' own numbers.
        private static final int BOARD = Kind.KINDS, SEEDS = Kind.KINDS + 1, BARN = Kind.KINDS + 2, TURN = Kind.KINDS + 3;

        private final char[] letters = new char[MOST_LETTERS];
        private int length = 0;
        private int clauses = 0;
        private int start = 0;
        private int end = 0;

        boolean add(int letter) {
            if (length >= MOST_LETTERS) {
                return false;
            }
            letters[length] = (char) letter;
            length++;
            return true;
        }

        void clear() {
            length = 0;
        }

        int length() {
            return length;
        }

        /** How many CLAUSES there were when it was last read without a FAULT. */
        int clauses() {
            return clauses;
        }

        /** Does the CLAUSES on a draft, up to the FAULT: the place of that, or NONE. */
        int read(Board draft) {
            end = 0;
            for (clauses = 1; clauses <= MOST_CLAUSES; clauses++) {
                if (!readClause(draft)) {
                    return start;
                }
                advance();
                if (start >= length) {
                    return NONE;
                }
                if (letters[start] != ';') {
                    return start;
                }
            }
            // This is the ; behind the last CLAUSE that there may be.
            return start;
        }

        private boolean readClause(Board draft) {
            advance();
            int word = word();
            if (word == NONE) {
                return false;
            }
            int first = readFirst(word, draft.houses());
            if (first == NONE) {
                return false;
            }
            int second = readSecond(word);
            if (second == NONE) {
                return false;
            }
            perform(draft, word, first, second);
            return true;
        }

        private int readFirst(int word, int houses) {
            switch (word) {
                case BOARD:
                    return readNumber(Board.LEAST_WIDTH, Board.MOST_WIDTH);
                case BARN:
                case TURN:
                    return readNumber(0, 1);
                default:
                    return readNumber(0, houses - 1);
            }
        }

        private int readSecond(int word) {
            switch (word) {
                case SEEDS:
                    return readNumber(0, 30);
                case BARN:
                    return readNumber(0, 99);
                default:
                    return 0;
            }
        }

        private static void perform(Board draft, int word, int first, int second) {
            switch (word) {
                case BOARD:
                    draft.setUp(first);
                    break;
                case SEEDS:
                    draft.setSeeds(first, second);
                    break;
                case BARN:
                    draft.setBarn(first, second);
                    break;
                case TURN:
                    draft.setTurn(first);
                    break;
                default:
                    draft.setKind(first, word);
            }
        }

        private int readNumber(int least, int most) {
            advance();
            if (!isAt(start, '0', '9') || end - start > MOST_DIGITS) {
                return NONE;
            }
            int number = 0;
            for (int at = start; at < end; at++) {
                number = 10 * number + letters[at] - '0';
            }
            return isWithin(number, least, most) ? number : NONE;
        }

        private int word() {
            if (isWord("plain")) {
                return Kind.PLAIN;
            }
            if (isWord("deep")) {
                return Kind.DEEP;
            }
            if (isWord("rich")) {
                return Kind.RICH;
            }
            if (isWord("barred")) {
                return Kind.BARRED;
            }
            if (isWord("mean")) {
                return Kind.MEAN;
            }
            if (isWord("board")) {
                return BOARD;
            }
            if (isWord("seeds")) {
                return SEEDS;
            }
            if (isWord("barn")) {
                return BARN;
            }
            return isWord("turn") ? TURN : NONE;
        }

        private boolean isWord(String word) {
            if (end - start != word.length()) {
                return false;
            }
            for (int n = 0; n < word.length(); n++) {
                if (letters[start + n] != word.charAt(n)) {
                    return false;
                }
            }
            return true;
        }

        /** Goes to the next TOKEN, from start up to end; behind the last one both are the length. */
        private void advance() {
            start = end;
            while (start < length && letters[start] == ' ') {
                start++;
            }
            end = start < length ? start + 1 : length;
            if (isAt(start, 'a', 'z')) {
                while (end < length && isAt(end, 'a', 'z')) {
                    end++;
                }
            } else if (isAt(start, '0', '9')) {
                while (end < length && isAt(end, '0', '9')) {
                    end++;
                }
            }
        }

        private boolean isAt(int place, char first, char last) {
            return place < length && letters[place] >= first && letters[place] <= last;
        }
    }

    /** What is FORETOLD, on boards of its own. */
    private static final class Foresight {
        static final int MOST_AHEAD = 5, MOST_LUCK = 3;

        // Far above any LEAD that there can be.
        private static final int BOUND = 1000000;
        // Divided by 2 .. 5, three times over, it leaves no rest.
        private static final int ALL_ODDS = 60 * 60 * 60;

        // The board behind so many MOVES.
        private final Board[] behind = new Board[MOST_AHEAD + 1];
        private int chosen = NONE;

        Foresight() {
            for (int n = 0; n <= MOST_AHEAD; n++) {
                behind[n] = new Board();
            }
        }

        int broughtBy(Board board, int house) {
            behind[0].copy(board);
            return behind[0].sow(house);
        }

        int bestLead(Board board, int d) {
            behind[0].copy(board);
            return search(0, d, -BOUND, BOUND);
        }

        /** The k-th MOVE of the LINE: what is best for d MOVES goes on with what is best for one less. */
        int lineMove(Board board, int d, int k) {
            behind[0].copy(board);
            for (int n = 0; n < d && n <= k; n++) {
                search(0, d - n, -BOUND, BOUND);
                if (n == k || chosen == NONE) {
                    return chosen;
                }
                behind[0].sow(chosen);
            }
            return NONE;
        }

        /**
         * The best LEAD of the SIDE whose TURN it is; at depth 0 its HOUSE is chosen.
         * MOVES that can't change a choice made above are passed over: what reaches most would not be let happen.
         */
        private int search(int depth, int left, int least, int most) {
            Board board = behind[depth];
            int best = -BOUND;
            int house = NONE;
            if (left > 0 && depth < MOST_AHEAD) {
                Board next = behind[depth + 1];
                for (int at = 0; at < board.houses() && best < most; at++) {
                    if (board.goes(at)) {
                        next.copy(board);
                        next.sow(at);
                        int lead = -search(depth + 1, left - 1, -most, -Math.max(least, best));
                        if (lead > best) {
                            best = lead;
                            house = at;
                        }
                    }
                }
            }
            if (depth == 0) {
                chosen = house;
            }
            return house == NONE ? board.lead(board.turn()) : best;
        }

        /** The board behind n rash MOVES, or when it is OVER, if that is sooner. */
        Board rashBoard(Board board, int n) {
            behind[0].copy(board);
            for (int gone = 0; gone < n; gone++) {
                int house = rashHouse();
                if (house == NONE) {
                    break;
                }
                behind[0].sow(house);
            }
            return behind[0];
        }

        private int rashHouse() {
            int most = NONE;
            int house = NONE;
            for (int at = 0; at < behind[0].houses(); at++) {
                if (behind[0].goes(at)) {
                    behind[1].copy(behind[0]);
                    int brought = behind[1].sow(at);
                    if (brought > most) {
                        most = brought;
                        house = at;
                    }
                }
            }
            return house;
        }

        int bestGift(Board board, int d) {
            behind[0].copy(board);
            int most = search(0, d, -BOUND, BOUND);
            int found = NONE;
            for (int house = 0; house < board.houses(); house++) {
                if (board.sideOf(house) == board.turn()) {
                    behind[0].copy(board);
                    behind[0].give(house, 1);
                    int lead = search(0, d, -BOUND, BOUND);
                    if (lead > most) {
                        most = lead;
                        found = house;
                    }
                }
            }
            return found;
        }

        int odds(Board board, int n, int part) {
            behind[0].copy(board);
            int above = leading(0, n, ALL_ODDS, board.turn());
            int common = commonDivisor(ALL_ODDS, above);
            if (common <= 0) {
                return 0;
            }
            return part == 0 ? above / common : ALL_ODDS / common;
        }

        /** How much of the odds of this board goes to boards on which the LEAD of a SIDE is above 0. */
        private int leading(int depth, int left, int odds, int side) {
            Board board = behind[depth];
            int ways = Integer.bitCount(board.goingBits());
            if (left <= 0 || ways <= 0 || depth >= MOST_AHEAD) {
                return board.lead(side) > 0 ? odds : 0;
            }
            Board next = behind[depth + 1];
            int sum = 0;
            for (int at = 0; at < board.houses(); at++) {
                if (board.goes(at)) {
                    next.copy(board);
                    next.sow(at);
                    sum += leading(depth + 1, left - 1, odds / ways, side);
                }
            }
            return sum;
        }

        private static int commonDivisor(int one, int other) {
            int divisor = one;
            int rest = other;
            // Two steps halve the rest at least, so that 64 are more than an int needs.
            for (int n = 0; n < 64 && rest > 0; n++) {
                int next = divisor % rest;
                divisor = rest;
                rest = next;
            }
            return divisor;
        }
    }

    /** What is SEEN of a HOUSE of unknown KIND. */
    private static final class Sightings {
        private static final int MOST_SEEN = 6, MOST_ASKED = 12;

        private final int[] seeds = new int[MOST_SEEN];
        private final int[] lifted = new int[MOST_SEEN];
        private final boolean[] takes = new boolean[MOST_SEEN];
        private final boolean[] yields = new boolean[MOST_SEEN];
        private int size = 0;

        boolean add(int g, int l, boolean didTake, boolean didYield) {
            if (size >= MOST_SEEN) {
                return false;
            }
            seeds[size] = g;
            lifted[size] = l;
            takes[size] = didTake;
            yields[size] = didYield;
            size++;
            return true;
        }

        void clear() {
            size = 0;
        }

        int size() {
            return size;
        }

        /** The KINDS, by bits, by which all would be as SEEN. */
        int possible() {
            int bits = 0;
            for (int kind = 0; kind < Kind.KINDS; kind++) {
                bits |= fits(kind) ? 1 << kind : 0;
            }
            return bits;
        }

        private boolean fits(int kind) {
            for (int n = 0; n < size; n++) {
                boolean isSo = Kind.lifted(kind, seeds[n]) == lifted[n]
                        && Kind.takes(kind, seeds[n]) == takes[n]
                        && Kind.yields(kind, seeds[n]) == yields[n];
                if (!isSo) {
                    return false;
                }
            }
            return true;
        }

        /** The least number of SEEDS that parts the possible KINDS best, or NONE. */
        int question() {
            int kinds = possible();
            int least = Integer.bitCount(kinds);
            int found = NONE;
            for (int g = 0; g <= MOST_ASKED; g++) {
                int part = greatestPart(kinds, g);
                if (part < least) {
                    least = part;
                    found = g;
                }
            }
            return found;
        }

        private static int greatestPart(int kinds, int g) {
            int greatest = 0;
            for (int kind = 0; kind < Kind.KINDS; kind++) {
                int part = 0;
                for (int other = 0; other < Kind.KINDS; other++) {
                    boolean areBoth = (kinds >> kind & 1) == 1 && (kinds >> other & 1) == 1;
                    part += areBoth && doAlike(kind, other, g) ? 1 : 0;
                }
                greatest = Math.max(greatest, part);
            }
            return greatest;
        }

        private static boolean doAlike(int kind, int other, int g) {
            return Kind.lifted(kind, g) == Kind.lifted(other, g)
                    && Kind.takes(kind, g) == Kind.takes(other, g)
                    && Kind.yields(kind, g) == Kind.yields(other, g);
        }
    }

    /** Things one on the other, the lowest first; each has what it is, and its number. */
    private static final class Box {
        static final int MOST_ROOM = 4;
        static final int NUMBER = 0, HOUSE = 1, BOX = 2;

        private final int[] what = new int[MOST_ROOM];
        private final int[] value = new int[MOST_ROOM];
        private int room = 0;
        private int size = 0;
        private boolean isThere = false;
        // The BOX that it lies in, or NONE.
        private int in = NONE;

        void push(int newWhat, int newValue) {
            if (size < MOST_ROOM) {
                what[size] = newWhat;
                value[size] = newValue;
                size++;
            }
        }

        boolean hasOnTop(int wanted) {
            return size > 0 && what[size - 1] == wanted;
        }

        void pullBox(int number) {
            int left = 0;
            for (int n = 0; n < size; n++) {
                if (what[n] != BOX || value[n] != number) {
                    what[left] = what[n];
                    value[left] = value[n];
                    left++;
                }
            }
            size = left;
        }

        int numbers() {
            int found = 0;
            for (int n = 0; n < size; n++) {
                found += what[n] == NUMBER ? 1 : 0;
            }
            return found;
        }

        int sum() {
            int sum = 0;
            for (int n = 0; n < size; n++) {
                sum += what[n] == NUMBER ? value[n] : 0;
            }
            return sum;
        }

        int houseBits() {
            int bits = 0;
            for (int n = 0; n < size; n++) {
                bits |= what[n] == HOUSE ? 1 << value[n] : 0;
            }
            return bits;
        }
    }

    /** All the BOXES. Callers hand in BOXES that it has. */
    private static final class Boxes {
        private static final int BOXES = 5;
        private static final int NUMBER_ZERO = 50000;

        private final Box[] all = new Box[BOXES];

        Boxes() {
            for (int n = 0; n < BOXES; n++) {
                all[n] = new Box();
            }
        }

        boolean has(int box) {
            return box >= 0 && box < BOXES;
        }

        boolean isThere(int box) {
            return all[box].isThere;
        }

        int thereBits() {
            int bits = 0;
            for (int box = 0; box < BOXES; box++) {
                bits |= isThere(box) ? 1 << box : 0;
            }
            return bits;
        }

        void clear() {
            for (int box = 0; box < BOXES; box++) {
                remove(box);
            }
        }

        void make(int box, int room) {
            remove(box);
            all[box].isThere = true;
            all[box].room = room;
        }

        /** How many things it held. */
        int remove(int box) {
            Box old = all[box];
            int held = old.size;
            for (int other = 0; other < BOXES; other++) {
                all[other].pullBox(box);
                if (all[other].in == box) {
                    all[other].in = NONE;
                }
            }
            old.in = NONE;
            old.size = 0;
            old.isThere = false;
            return held;
        }

        int lay(int box, int what, int v) {
            Box into = all[box];
            boolean isBox = what == Box.BOX && has(v);
            if (isBox && all[v].in != NONE) {
                return NOT;
            }
            if (!into.isThere || isBox && !isThere(v)) {
                return NULL;
            }
            if (into.size >= into.room) {
                return ROOM;
            }
            if (isBox && stepsUp(box, v) != NONE) {
                return LOOP;
            }
            into.push(what, v);
            if (isBox) {
                all[v].in = box;
            }
            return into.size;
        }

        int lift(int box, int what) {
            Box from = all[box];
            if (!from.isThere) {
                return NULL;
            }
            if (from.size <= 0) {
                return EMPTY;
            }
            if (!from.hasOnTop(what)) {
                return CAST;
            }
            from.size--;
            int v = from.value[from.size];
            if (what == Box.BOX && has(v)) {
                all[v].in = NONE;
            }
            return what == Box.NUMBER ? NUMBER_ZERO + v : v;
        }

        int pour(int box) {
            Box into = all[box];
            if (!into.isThere) {
                return NULL;
            }
            if (into.size <= 0) {
                return EMPTY;
            }
            int top = into.value[into.size - 1];
            if (!into.hasOnTop(Box.BOX) || !has(top)) {
                return CAST;
            }
            Box from = all[top];
            if (into.size - 1 + from.size > into.room) {
                return ROOM;
            }
            into.size--;
            from.in = NONE;
            for (int n = 0; n < from.size; n++) {
                into.push(from.what[n], from.value[n]);
                if (from.what[n] == Box.BOX && has(from.value[n])) {
                    all[from.value[n]].in = box;
                }
            }
            from.size = 0;
            return into.size;
        }

        int throughout(int box, int what) {
            int found = what == 1 ? NUMBER_ZERO : 0;
            for (int inner = 0; inner < BOXES; inner++) {
                int steps = stepsUp(inner, box);
                if (steps != NONE) {
                    found = withInner(found, inner, steps, what);
                }
            }
            return found;
        }

        private int withInner(int found, int inner, int steps, int what) {
            switch (what) {
                case 0:
                    return found + all[inner].numbers();
                case 1:
                    return found + all[inner].sum();
                case 2:
                    return found | all[inner].houseBits();
                case 3:
                    return steps > 0 ? found | 1 << inner : found;
                default:
                    return Math.max(found, steps);
            }
        }

        /** How many BOXES it is up from an inner one to an outer one (0: it is the same), or NONE: it isn't in that. */
        private int stepsUp(int inner, int outer) {
            int at = inner;
            for (int steps = 0; steps < BOXES && at != NONE; steps++) {
                if (at == outer) {
                    return steps;
                }
                at = all[at].in;
            }
            return NONE;
        }

        boolean holdSame(int box, int other) {
            return holdSameFrom(box, other, 0);
        }

        private boolean holdSameFrom(int box, int other, int depth) {
            Box one = all[box];
            Box two = all[other];
            if (one.size != two.size || depth > BOXES) {
                return false;
            }
            for (int n = 0; n < one.size; n++) {
                if (one.what[n] != two.what[n] || !isSame(one.what[n], one.value[n], two.value[n], depth)) {
                    return false;
                }
            }
            return true;
        }

        private boolean isSame(int what, int value, int other, int depth) {
            if (what == Box.BOX && has(value) && has(other)) {
                return holdSameFrom(value, other, depth + 1);
            }
            return value == other;
        }
    }
}
