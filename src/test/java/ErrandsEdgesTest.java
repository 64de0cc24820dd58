/** Promises 11 to 14 at their edges: each sentence that names one has a test of its own. By TEXT 0, if none is told. */
public final class ErrandsEdgesTest {
    private static final int MIN = Check.MIN, MAX = Check.MAX;
    private static final Check c = new Check();

    public static void main(String[] args) {
        errandSheetAndWhat();
        errandMissing();
        errandOfNoThing();
        errandTwice();
        errandOfNone();
        errandOfSix();
        stepsApart();
        thingsSheHas();
        backAboveTurn();
        ifThereIsOne();
        secondsOfThoseLetBy();
        eightLetBy();
        whateverChance();
        nearestWhat();
        nearestOfLikeOnes();
        nearestTurnOrLess();
        nearestIfThereIsNone();
        bestWhat();
        bestOfFewest();
        bestOfFirst();
        bestMostGain();
        latestBelowNothing();
        latestRefusals();
        c.end();
    }

    private static void errand(String name, KeepOurPlace x, long... due) {
        c.inTurn(name + ": errand", what -> x.errand(0, what), due);
    }

    private static void nearest(String name, KeepOurPlace x, long... due) {
        c.inTurn(name + ": nearest", x::nearest, due);
    }

    private static void best(String name, KeepOurPlace x, long... due) {
        c.inTurn(name + ": best", x::best, due);
    }

    /** Who is ahead has as many items as TURN shall be seconds. */
    private static void turnOf(KeepOurPlace x, int seconds) {
        if (x.count(0) == 0) {
            Check.line(x, seconds);
            Check.rule(x, "takes 1; lets 10 + wait * 5; walks 2 + items;");
            x.set(0, 0, 1);
        }
        x.set(1, 0, seconds);
        c.due("TURN", x.turn(), seconds);
    }

    // ---- errand

    private static void errandSheetAndWhat() {
        c.says("11 -100000: SHEET, what");
        KeepOurPlace x = Check.twoThings();
        Check.row(x, 0, 0, 0, 1);
        Check.row(x, 3, 0, 0, 1);
        c.each("errand of sheet", s -> x.errand(s, 0), -100000, -1, 4, 5, MIN, MAX);
        c.each("errand", what -> x.errand(0, what), -100000, -1, 4, MIN, MAX);
        errand("as told", x, 16, 0, 44, 60);
        c.due("of the last sheet", x.errand(3, 0), 16);
    }

    private static void errandMissing() {
        c.says("11 -100000: it is missing");
        KeepOurPlace x = Check.twoThings();
        c.each("errand of sheet", s -> x.errand(s, 0), -100000, 0, 1, 2, 3);
        x.sheet(0, 0, 0);
        c.due("no more", x.errand(0, 0), 0);
        x.sheet(0, -1, 0);
        c.due("missing again", x.errand(0, 0), -100000);
    }

    private static void errandOfNoThing() {
        c.says("11 -100000: it tells what is no THING");
        KeepOurPlace x = Check.twoThings();
        for (int v : new int[] {2, -1, 6, 40, MIN, MAX}) {
            Check.row(x, 0, 2, v);
            c.due("alone " + v, x.errand(0, 0), -100000);
            Check.row(x, 0, 2, 0, 1, v);
            c.due("as the last " + v, x.errand(0, 3), -100000);
        }
        Check.row(x, 0, 0, 255);
        c.due("a byte below 0", x.errand(0, 0), -100000);
        Check.row(x, 0, 0, 256, 257);
        c.due("bytes keep the lowest 8 bits", x.errand(0, 0), 16);
        Check.row(x, 0, 1, 65537, -65536);
        c.due("shorts keep the lowest 16 bits", x.errand(0, 0), 20);
        x.thing(0, 0);
        Check.row(x, 0, 2, 2);
        c.due("now it is one", x.errand(0, 0), 0);
        KeepOurPlace nothing = new KeepOurPlace();
        Check.row(nothing, 0, 0, 0);
        c.due("there is none at all", nothing.errand(0, 0), -100000);
    }

    private static void errandTwice() {
        c.says("11 -100000: it tells any twice");
        KeepOurPlace x = Check.shelves(1, 1, 2, 3, 4, 5, 6);
        int[][] rows = {{0, 0}, {5, 5}, {0, 1, 0}, {0, 1, 2, 3, 4, 5, 0}, {0, 1, 2, 3, 4, 4}, new int[40]};
        for (int[] row : rows) {
            Check.row(x, 0, 0, row);
            c.inTurn("of " + row.length, what -> x.errand(0, what), -100000, -100000, -100000, -100000);
        }
    }

    private static void errandOfNone() {
        c.says("11 AN ERRAND: some THINGS (none, too)");
        KeepOurPlace x = Check.twoThings();
        for (int sort = 0; sort < 3; sort++) {
            x.sheet(0, sort, 0);
            errand("of none", x, 0, 0, 0, 0);
        }
        Check.line(x, 0, 0);
        Check.rule(x, "takes 0; lets 99; walks 99;");
        errand("whoever is behind", x, 0, 0, 0, 0);
        x.set(0, 0, 2);
        errand("whoever is ahead", x, 0, 0, 0, 0);
    }

    private static void errandOfSix() {
        c.says("11 AN ERRAND: some THINGS, each once, one behind the other");
        KeepOurPlace x = Check.shelves(99, 1, 2, 3, 4, 5, 6);
        Check.row(x, 0, 0, 0, 1, 2, 3, 4, 5);
        errand("outward", x, 2 + 3 + 4 + 5 + 6 + 7 + 6 * 8, 0, 594 - 75, 594);
        Check.row(x, 0, 0, 5, 4, 3, 2, 1, 0);
        errand("inward", x, 6 * 2 + 3 + 4 + 5 + 6 + 7 + 8, 0, 594 - 45, 594);
    }

    private static void stepsApart() {
        c.says("11 as many steps as x and y are apart, together");
        int[] shelves = {0, 1, 10, 9, 90, 99, 45};
        long[] steps = {0, 1, 1, 9, 9, 18, 9};
        c.inTurn("there and back, 2 and 3 a step", i -> {
            KeepOurPlace x = Check.shelves(0, shelves[i]);
            Check.row(x, 0, 0, 0);
            return x.errand(0, 0) / 5;
        }, steps);
        KeepOurPlace x = Check.shelves(0, 9, 90, 90);
        Check.row(x, 0, 0, 0, 1);
        c.due("from one corner to the other", x.errand(0, 0), 9 * 2 + 18 * 3 + 9 * 4);
        Check.row(x, 0, 0, 1, 2);
        c.due("from a shelf to itself", x.errand(0, 0), 9 * 2 + 0 * 3 + 9 * 4);
    }

    private static void thingsSheHas() {
        c.says("11 each takes what walks tells, items being how many THINGS she has had by then");
        KeepOurPlace x = Check.twoThings();
        Check.row(x, 0, 0, 0, 1);
        Check.rule(x, "takes 0; lets 0; walks items;");
        c.due("0, 1 and 2", x.errand(0, 0), 0 * 3 + 1 * 2 + 2 * 1);
        Check.rule(x, "takes 0; lets 0; walks 99;");
        c.due("the most", x.errand(0, 0), 99 * 6);
        Check.rule(x, "takes 0; lets 0; walks 0;");
        c.due("no time", x.errand(0, 0), 0);
    }

    private static void backAboveTurn() {
        c.says("11 As long as BACK is above TURN and SECONDS of those LET BY, the next CUSTOMER BEHIND is LET BY");
        KeepOurPlace x = Check.twoThings();
        Check.row(x, 0, 0, 0);
        turnOf(x, 16);
        Check.line(x, 0, 1, 40);
        errand("below", x, 15, 0, 50, 50);
        turnOf(x, 15);
        errand("just TURN", x, 15, 0, 50, 50);
        turnOf(x, 14);
        errand("1 above: one of no seconds, then one of 1", x, 15, 2, 50 - 10 - 15, 50);
        turnOf(x, 13);
        errand("2 above: the third, too", x, 15, 3, 50 - 10 - 15 - 20, 50);
    }

    private static void ifThereIsOne() {
        c.says("11 (if there is one) .. less by how much BACK is yet above (0, if it isn't)");
        KeepOurPlace x = Check.twoThings();
        Check.row(x, 0, 0, 0);
        turnOf(x, 15);
        errand("nobody behind, just TURN", x, 15, 0, 50, 50);
        turnOf(x, 14);
        errand("nobody behind, 1 above", x, 15, 0, 49, 50);
        Check.line(x, 0);
        errand("he is LET BY, yet 1 above", x, 15, 1, 50 - 10 - 1, 50);
        x.set(1, 1, 1);
        errand("he is LET BY, and it is 0", x, 15, 1, 40, 50);
        x.set(0, 0, 2);
        errand("he is ahead", x, 15, 0, 50, 50);
    }

    private static void secondsOfThoseLetBy() {
        c.says("11 SECONDS of those LET BY, by the KIND and the place of each");
        KeepOurPlace x = Check.twoThings();
        Check.row(x, 0, 0, 0);
        x.customer(5, 0);
        x.customer(0, 150);
        x.customer(5, 150);
        x.customer(3, 10);
        x.set(0, 0, 1);
        Check.rule(x, "takes place; lets 10; walks 2 + items;");
        errand("15 of the second", x, 15, 1, 40, 50);
        x.set(0, 0, 2);
        x.set(1, 1, 0);
        errand("half of 30 of the third", x, 15, 1, 50 - 11, 50);
        x.set(1, 2, 14);
        errand("14, then 23 of the fourth", x, 15, 2, 50 - 11 - 0, 50);
    }

    private static void eightLetBy() {
        c.says("11 how many are LET BY: all 8");
        KeepOurPlace x = Check.twoThings();
        Check.row(x, 0, 0, 0);
        Check.line(x, 0, 0, 0, 0, 0, 0, 0, 0);
        Check.rule(x, "takes 1; lets 10 + wait * 5; walks 2 + items;");
        int[][] due = {{8, -220 - 15}, {8, -220 - 7}, {8, -220}, {5, -100}};
        for (int items = 0; items < due.length; items++) {
            for (int who = 0; who < 8; who++) x.set(1, who, items);
            errand("each " + items + " seconds", x, 15, due[items][0], 50 + due[items][1], 50);
        }
        for (int who = 0; who < 7; who++) x.set(1, who, 0);
        x.set(1, 7, 15);
        errand("the last one is enough", x, 15, 8, 50 - 220, 50);
    }

    private static void whateverChance() {
        c.says("11 GAIN: WORTH of all THINGS of it (whatever their CHANCE)");
        KeepOurPlace x = Check.twoThings();
        Check.row(x, 0, 0, 0, 1);
        for (int chance = 0; chance <= 100; chance += 50) {
            x.set(5, 0, chance);
            x.set(5, 1, 100 - chance);
            errand("of " + chance, x, 16, 0, 44, 60);
            best("of " + chance, x, 12, 16, 44, 0);
        }
    }

    // ---- nearest

    private static void nearestWhat() {
        c.says("12 -100000: what.");
        KeepOurPlace x = Check.twoThings();
        c.each("nearest", x::nearest, -100000, -1, 3, 4, MIN, MAX);
    }

    private static void nearestOfLikeOnes() {
        c.says("12 the THING fewest steps off, of like ones the first");
        KeepOurPlace two = Check.shelves(9, 10, 1);
        turnOf(two, 40);
        nearest("of two", two, 12, 2 + 2 * 3 + 4, 18);
        KeepOurPlace three = Check.shelves(9, 2, 11, 1);
        turnOf(three, 40);
        nearest("from where she is", three, 312, 2 + 3 + 2 * 4 + 2 * 5, 27);
        KeepOurPlace six = Check.shelves(9, 0, 0, 0, 0, 0, 0);
        nearest("of six", six, 123456, 0, 54);
        KeepOurPlace unlike = Check.shelves(9, 3, 1, 2);
        turnOf(unlike, 40);
        nearest("of unlike ones the nearest", unlike, 231, 2 + 3 + 4 + 3 * 5, 27);
    }

    private static void nearestTurnOrLess() {
        c.says("12 she goes there, if, going back from there, BACK would be TURN or less");
        KeepOurPlace x = Check.twoThings();
        turnOf(x, 4);
        nearest("1 less than to the first", x, 0, 0, 0);
        turnOf(x, 5);
        nearest("just to the first", x, 2, 5, 10);
        turnOf(x, 19);
        nearest("1 less than to both", x, 2, 5, 10);
        turnOf(x, 20);
        nearest("just to both", x, 21, 20, 60);
        turnOf(x, 21);
        nearest("1 more", x, 21, 20, 60);
        KeepOurPlace y = Check.shelves(7, 0);
        nearest("no steps, TURN is 0", y, 1, 0, 7);
        y.set(3, 0, 1);
        nearest("one step, TURN is 0", y, 0, 0, 0);
        Check.rule(y, "takes 0; lets 0; walks 0;");
        nearest("one step of no time, TURN is 0", y, 1, 0, 7);
    }

    private static void nearestIfThereIsNone() {
        c.says("12 else (or if there is none) she goes back (0: none)");
        KeepOurPlace x = new KeepOurPlace();
        turnOf(x, 40);
        nearest("nothing to fetch", x, 0, 0, 0);
        x.thing(1, 0);
        nearest("of no WORTH, never there", x, 1, 5, 0);
    }

    // ---- best

    private static void bestWhat() {
        c.says("13 -100000: what.");
        KeepOurPlace x = Check.twoThings();
        c.each("best", x::best, -100000, -1, 4, 5, MIN, MAX);
    }

    /** Things by their shelf and worth, two by two. */
    private static KeepOurPlace worths(int... shelvesAndWorths) {
        KeepOurPlace x = new KeepOurPlace();
        for (int i = 0; i < shelvesAndWorths.length; i += 2) {
            x.thing(shelvesAndWorths[i], 1000 * shelvesAndWorths[i + 1]);
        }
        return x;
    }

    private static void bestOfFewest() {
        c.says("13 of like ones that of fewest THINGS");
        best("GAIN 0 as of none", Check.shelves(15, 12), 0, 0, 0, 0);
        best("GAIN 1", Check.shelves(16, 12), 1, 15, 1, 0);
        best("of no WORTH and no time", Check.shelves(0, 0, 0, 0), 0, 0, 0, 0);
        best("of WORTH and no time", Check.shelves(1, 0, 0, 0), 123, 0, 3, 0);
        best("one by 2, two by 14 less 12", Check.shelves(7, 10, 1), 1, 5, 2, 0);
        best("one by 3, two by 16 less 12", Check.shelves(8, 10, 1), 12, 12, 4, 0);
        best("35 less 22, as 65 less 52 of three", worths(4, 20, 4, 15, 40, 30, 20, 5), 34, 22, 13, 0);
    }

    private static void bestOfFirst() {
        c.says("13 of like ones the first, THING by THING");
        best("either", Check.shelves(6, 10, 1), 1, 5, 1, 0);
        best("either way round", Check.shelves(9, 10, 1), 12, 12, 6, 0);
        best("only one way round", Check.shelves(9, 1, 10, 30), 12, 12, 6, 0);
        best("the greater ahead of the less is more", Check.shelves(50, 1, 12), 21, 16, 84, 0);
        KeepOurPlace x = Check.shelves(10, 1, 10, 10);
        Check.line(x, 8, 0);
        x.set(0, 0, 1);
        Check.rule(x, "takes 1; lets 99; walks 1 + items;");
        best("any two are back by 8, all three are not", x, 12, 1 + 2 * 2 + 3, 20, 0);
        best("65 less 25, as 75 less 35 of 214", worths(21, 20, 14, 20, 30, 10, 10, 35), 134, 25, 40, 0);
    }

    private static void bestMostGain() {
        c.says("13 of all ERRANDS that of most GAIN");
        best("far off is not worth it", Check.shelves(99, 99), 1, 90, 9, 0);
        best("10 for letting one by", bestBehind(40), 1, 90, 89, 1);
        best("with a rest", bestBehind(5), 1, 90, 14, 1);
        KeepOurPlace two = bestBehind(27, 4, 40);
        two.thing(99, 0);
        best("81 seconds, then 12 more", two, 1, 90, 99 - 10 - 15, 2);
        best("all six", Check.shelves(99, 0, 0, 0, 0, 0, 0), 123456, 0, 594, 0);
        KeepOurPlace x = Check.shelves(99, 99);
        Check.rule(x, "takes 0; lets 0; walks 99;");
        best("none, though it is 0", x, 0, 0, 0, 0);
    }

    private static KeepOurPlace bestBehind(int... items) {
        KeepOurPlace x = Check.shelves(99, 99);
        Check.line(x, items);
        return x;
    }

    // ---- latest

    private static void latestBelowNothing() {
        c.says("14 LATEST: TURN less what it takes; NONE, if that is below 0");
        KeepOurPlace x = Check.twoThings();
        turnOf(x, 5);
        c.due("3 steps of 2 is 1 above", x.latest(0, 0), -1);
        turnOf(x, 6);
        c.due("just", x.latest(0, 0), 0);
        turnOf(x, 7);
        c.due("1 second", x.latest(0, 0), 1);
        turnOf(x, 23);
        c.due("3 steps of 8 is 1 above", x.latest(0, 6), -1);
        turnOf(x, 24);
        c.inTurn("having so many", n -> x.latest(0, n), 18, 15, 12, 9, 6, 3, 0);
        KeepOurPlace y = Check.shelves(1, 0, 99);
        c.due("at THE TILL", y.latest(0, 6), 0);
        Check.rule(y, "takes 0; lets 0; walks 99;");
        c.due("far below 0", y.latest(1, 0), -1);
    }

    private static void latestRefusals() {
        c.says("14 n THINGS (0 .. 6). BAD; NONE.");
        KeepOurPlace x = Check.twoThings();
        c.each("of no thing", t -> x.latest(t, 0), -2, -1, 2, 5, 6, MIN, MAX);
        c.each("having so many", n -> x.latest(0, n), -2, -1, 7, MIN, MAX);
        c.due("both as told", x.latest(1, 6), -1);
    }
}
