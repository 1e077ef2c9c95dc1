/** Counts the answers that are not the ones that are due, and tells of each. */
final class Checks {
    private String part = "";
    private int made = 0;
    private int wrong = 0;

    void part(String name) {
        part = name;
    }

    void due(String call, long got, long want) {
        made++;
        if (got != want) {
            wrong++;
            System.out.println(part + ": " + call + " answered " + got + ", due is " + want);
        }
    }

    void holds(String claim, boolean isSo) {
        made++;
        if (!isSo) {
            wrong++;
            System.out.println(part + ": not so: " + claim);
        }
    }

    /** Writes a whole text, letter by letter. */
    static void write(SownSeeds x, String text) {
        for (int n = 0; n < text.length(); n++) {
            x.write(text.charAt(n));
        }
    }

    /** A new object whose board is as a text tells. */
    SownSeeds told(String text) {
        SownSeeds x = new SownSeeds();
        tell(x, text);
        return x;
    }

    void tell(SownSeeds x, String text) {
        write(x, text);
        due("board() of \"" + text + "\"", x.board(), text.split(";").length);
    }

    /** SEEDS of all HOUSES, in their order. */
    void seeds(SownSeeds x, int... want) {
        due("count(0)", x.count(0), want.length);
        for (int house = 0; house < want.length; house++) {
            due("house(" + house + ", 1)", x.house(house, 1), want[house]);
        }
    }

    /** KINDS of all HOUSES, in their order. */
    void kinds(SownSeeds x, int... want) {
        due("count(0)", x.count(0), want.length);
        for (int house = 0; house < want.length; house++) {
            due("house(" + house + ", 0)", x.house(house, 0), want[house]);
        }
    }

    void end() {
        System.out.println(made + " answers, " + wrong + " not as due");
        if (wrong != 0) {
            System.exit(1);
        }
    }
}
