/**
 * Reads an object out to the last: first what it tells, then, which changes it, what can be undone, what was kept,
 * what lies in the boxes, what the texts told. Two objects of which it tells the same are in the same state.
 */
final class Witness {
    private final SownSeeds x;
    private final StringBuilder all = new StringBuilder();

    private Witness(SownSeeds x) {
        this.x = x;
    }

    static String of(SownSeeds x) {
        Witness w = new Witness(x);
        for (int what = 7; what <= 10; what++) {
            w.tell(x.count(what));
        }
        w.board("now");
        w.seen();
        w.boxes();
        w.past();
        w.text();
        return w.all.toString();
    }

    private void tell(int answer) {
        all.append(' ').append(answer);
    }

    private void part(String name) {
        all.append("\n").append(name).append(':');
    }

    private void board(String name) {
        part(name);
        int houses = x.count(0);
        tell(houses);
        for (int what = 1; what <= 4; what++) {
            tell(x.count(what));
        }
        for (int house = 0; house < houses; house++) {
            tell(x.house(house, 0));
            tell(x.house(house, 1));
        }
    }

    private void seen() {
        part("seen");
        tell(x.kinds());
        tell(x.ask());
        tell(x.forget());
    }

    private void boxes() {
        part("boxes");
        for (int box = 0; box < 5; box++) {
            tell(x.deep(box, 3));
            tell(x.deep(box, 4));
        }
        for (int box = 0; box < 5; box++) {
            part("box " + box);
            int room = 0;
            while (x.put(box, 0, 0) >= 0) {
                room++;
            }
            tell(room);
            int things = 0;
            for (int what = 0; what <= 2 && things < 8; what++) {
                int thing = x.take(box, what);
                if (thing >= 0) {
                    all.append(' ').append(what).append('/').append(thing);
                    things++;
                    what = -1;
                }
            }
        }
        part("boxes that lie in none");
        x.box(0, 4);
        for (int box = 1; box < 5; box++) {
            tell(x.put(0, 2, box));
        }
    }

    private void past() {
        int left = x.undo();
        while (left >= 0) {
            board("undone, " + left);
            left = x.undo();
        }
        for (int k = 0; k <= 1; k++) {
            tell(x.back(k));
            board("kept, " + k);
        }
    }

    private void text() {
        part("text");
        tell(x.fault());
        tell(x.board());
        board("told");
        tell(x.erase());
        Checks.write(x, "turn 0");
        tell(x.board());
        board("told earlier");
    }
}
