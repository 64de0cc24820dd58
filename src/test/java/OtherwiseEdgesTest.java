/** Promises 15 to 20 at their edges: each sentence that names one has a test of its own. By TEXT 0, if none is told. */
public final class OtherwiseEdgesTest {
    private static final int MIN = Check.MIN, MAX = Check.MAX;
    private static final Check c = new Check();

    public static void main(String[] args) {
        leaveNone();
        leaveFirstOfLikeOnes();
        moreOfNoThing();
        moreOfOneOutsideBest();
        standWhat();
        standLeastOfLikeOnes();
        standAtTheEnds();
        changeWhat();
        changeNone();
        changeIfLess();
        changeFirstOfLikeOnes();
        changeOfEight();
        changeOfKinds();
        linesWhat();
        linesOfNobody();
        linesOfLikeOnes();
        linesOfEight();
        likelyRefusals();
        likelyAtBounds();
        c.end();
    }

    private static KeepOurPlace line(int place, int... items) {
        KeepOurPlace x = new KeepOurPlace();
        Check.line(x, items);
        x.set(0, 0, place);
        Check.rule(x, "takes 1; lets 10; walks 2 + items;");
        return x;
    }

    private static void leaveNone() {
        c.says("15 NONE: BEST has none.");
        c.due("nothing to fetch", new KeepOurPlace().leave(), -1);
        c.due("GAIN 0", Check.shelves(15, 12).leave(), -1);
        c.due("GAIN 1", Check.shelves(16, 12).leave(), 0);
    }

    private static void leaveFirstOfLikeOnes() {
        c.says("15 of like ones the one that comes first in it");
        int[][] shelves = {{1, 30, 20}, {21, 2, 31}, {2, 21, 31}, {0, 0, 0}};
        c.inTurn("best", i -> Check.shelves(99, shelves[i]).best(0), 231, 312, 321, 123);
        c.inTurn("leave", i -> Check.shelves(99, shelves[i]).leave(), 1, 2, 2, 0);
    }

    private static void moreOfNoThing() {
        c.says("16 -100000: no such THING.");
        KeepOurPlace x = Check.twoThings();
        c.each("more", x::more, -100000, -1, 2, 5, 6, 31, 32, MIN, MAX);
        c.due("nothing at all", new KeepOurPlace().more(0), -100000);
    }

    private static void moreOfOneOutsideBest() {
        c.says("16 GAIN of BEST less what it would be, were that THING nowhere");
        KeepOurPlace x = Check.shelves(16, 12, 12);
        x.set(4, 1, 0);
        c.inTurn("all of it, and nothing", x::more, 1, 0);
        x.set(4, 1, 16);
        c.inTurn("both: 32 less 18", x::more, 14 - 1, 14 - 1);
        x.set(4, 1, 3);
        c.inTurn("either is no more than the first alone", x::more, 1, 0);
        KeepOurPlace six = Check.shelves(99, 0, 0, 0, 0, 0, 0);
        c.inTurn("each of six", six::more, 99, 99, 99, 99, 99, 99);
    }

    private static void standWhat() {
        c.says("17 -100000: what.");
        KeepOurPlace x = line(1, 1, 2);
        c.each("stand", x::stand, -100000, -1, 2, MIN, MAX);
        c.due("OUR PLACE stays", x.count(2), 1);
    }

    private static void standLeastOfLikeOnes() {
        c.says("17 of like ones the least");
        KeepOurPlace x = line(8, 9, 9, 9, 9, 9, 9, 9, 9);
        c.inTurn("nothing to fetch", x::stand, 0, 0);
        x.thing(12, 50000);
        c.inTurn("15 seconds: behind two", x::stand, 2, 50);
        x.set(1, 0, 15);
        c.inTurn("behind one", x::stand, 1, 50);
        x.set(1, 0, 14);
        c.inTurn("1 second less: behind two", x::stand, 2, 50);
        c.due("OUR PLACE stays", x.count(2), 8);
    }

    private static void standAtTheEnds() {
        c.says("17 OUR PLACE (0 .. how many there are)");
        c.inTurn("nobody in line", Check.shelves(99, 99)::stand, 0, 9);
        KeepOurPlace x = Check.shelves(99, 99);
        Check.line(x, 4, 4, 4, 4, 4, 4, 4, 4);
        c.inTurn("90 seconds: behind all 8, 12 each", x::stand, 8, 99);
        x.set(1, 7, 0);
        c.inTurn("84 seconds at most: behind all, so that nobody is LET BY", x::stand, 8, 99 - 6);
        c.due("OUR PLACE stays", x.count(2), 0);
    }

    private static void changeWhat() {
        c.says("18 BAD.");
        KeepOurPlace x = line(1, 5, 4);
        c.each("change", x::change, -2, -1, 2, 3, MIN, MAX);
    }

    private static void changeNone() {
        c.says("18 two CUSTOMERS, the one AHEAD, the other BEHIND; NONE (TURN as now, if there is none)");
        c.inTurn("nobody", new KeepOurPlace()::change, -1, 0);
        c.inTurn("nobody ahead", line(0, 9, 1)::change, -1, 0);
        c.inTurn("nobody behind", line(2, 9, 1)::change, -1, 10);
    }

    private static void changeIfLess() {
        c.says("18 if less than now");
        c.inTurn("as now", line(1, 5, 5)::change, -1, 5);
        c.inTurn("1 more", line(1, 5, 6)::change, -1, 5);
        c.inTurn("1 less", line(1, 5, 4)::change, 1, 4);
        c.inTurn("all of it", line(1, 5, 0)::change, 1, 0);
        c.inTurn("nothing to save", line(1, 0, 0)::change, -1, 0);
    }

    private static void changeFirstOfLikeOnes() {
        c.says("18 of like ones the first (10 times the one AHEAD, and the other)");
        c.inTurn("all alike", line(2, 9, 9, 1, 1)::change, 2, 10);
        c.inTurn("the second other", line(2, 9, 9, 2, 1)::change, 3, 10);
        c.inTurn("the second ahead", line(2, 8, 9, 1, 1)::change, 12, 9);
        c.inTurn("the last of both", line(2, 5, 9, 3, 1)::change, 13, 6);
    }

    private static void changeOfEight() {
        c.says("18 of 8 CUSTOMERS");
        c.inTurn("the first and the last", line(1, 9, 8, 8, 8, 8, 8, 8, 1)::change, 7, 1);
        c.inTurn("the last two", line(7, 1, 1, 1, 1, 1, 1, 9, 1)::change, 67, 7);
        KeepOurPlace x = line(4, 1, 2, 3, 40, 5, 6, 7, 0);
        c.inTurn("in the midst", x::change, 37, 6);
        c.inTurn("all stay where they are", i -> x.told(i, 1), 1, 2, 3, 40, 5, 6, 7, 0);
        c.due("OUR PLACE stays", x.count(2), 4);
    }

    private static void changeOfKinds() {
        c.says("18 (all else of both goes with them)");
        KeepOurPlace x = line(1, 10);
        x.customer(5, 180);
        c.inTurn("half of 18 is less than 10", x::change, 1, 9);
        x.set(1, 1, 20);
        c.inTurn("half of 20 is not", x::change, -1, 10);
        KeepOurPlace y = line(1, 10);
        y.customer(1, 1);
        c.inTurn("5 times NUMBER is less than 10", y::change, 1, 5);
        y.set(2, 1, 2);
        c.inTurn("10 is not", y::change, -1, 10);
    }

    private static void linesWhat() {
        c.says("19 BAD.");
        KeepOurPlace x = line(1, 5, 4);
        c.each("lines", x::lines, -2, -1, 3, MIN, MAX);
    }

    private static void linesOfNobody() {
        c.says("19 the seconds at which all those AHEAD of us are through");
        c.inTurn("nobody", new KeepOurPlace()::lines, 0, 0, 0);
        c.inTurn("nobody ahead", line(0, 5, 4)::lines, 0, 0, 0);
        c.inTurn("one ahead", line(1, 5, 4)::lines, 5, 0, 1);
    }

    private static void linesOfLikeOnes() {
        c.says("19 2 the sooner (of like ones 0)");
        c.inTurn("alike", line(2, 5, 5)::lines, 5, 5, 0);
        c.inTurn("the one by 1", line(2, 5, 6)::lines, 5, 6, 0);
        c.inTurn("the other by 1", line(2, 6, 5)::lines, 6, 5, 1);
    }

    private static void linesOfEight() {
        c.says("19 CUSTOMERS of even numbers stand in one, those of odd numbers in another one");
        c.inTurn("all 8", line(8, 1, 2, 3, 4, 5, 6, 7, 8)::lines, 1 + 3 + 5 + 7, 2 + 4 + 6 + 8, 0);
        c.inTurn("7", line(7, 1, 2, 3, 4, 5, 6, 7, 8)::lines, 16, 12, 1);
        KeepOurPlace x = new KeepOurPlace();
        for (int kind = 0; kind < 6; kind++) x.customer(kind, 101);
        x.set(0, 0, 6);
        c.inTurn("one of each KIND", x::lines, 30 + 30 + 31, 35 + 35 + 15, 1);
    }

    private static void likelyRefusals() {
        c.says("20 NO: refused as of errand().");
        KeepOurPlace x = Check.twoThings();
        Check.row(x, 0, 0, 0, 1);
        c.each("likely of sheet", x::likely, KeepOurPlace.NO, -1, 4, MIN, MAX);
        c.each("likely of one that is missing", x::likely, KeepOurPlace.NO, 1, 2, 3);
        int[][] rows = {{2}, {-1}, {0, 2}, {0, 0}, {1, 0, 1}, {0, 1, 0, 1, 0, 1, 0}, new int[40]};
        for (int[] row : rows) {
            Check.row(x, 1, 2, row);
            c.due("likely of " + row.length, x.likely(1), KeepOurPlace.NO);
        }
    }

    private static void likelyAtBounds() {
        c.says("20 of each of its THINGS WORTH times CHANCE, together, less 100 times (WORTH of all less GAIN)");
        KeepOurPlace x = Check.twoThings();
        x.sheet(0, 0, 0);
        c.due("none", x.likely(0), 0);
        Check.row(x, 0, 0, 0);
        int[] chances = {0, 1, 29, 30, 31, 100};
        c.inTurn("50 at 15 seconds", i -> {
            x.set(5, 0, chances[i]);
            return x.likely(0);
        }, -1500, -1450, -50, 0, 50, 3500);
        Check.row(x, 0, 0, 1);
        c.due("the second one alone", x.likely(0), 1000 - 500);
        Check.row(x, 0, 0, 1, 0);
        x.set(5, 0, 50);
        c.due("the second one first", x.likely(0), 2500 + 1000 - 2000);
        KeepOurPlace six = Check.shelves(99, 0, 0, 0, 0, 0, 0);
        Check.row(six, 0, 0, 0, 1, 2, 3, 4, 5);
        c.due("the most", six.likely(0), 6 * 99 * 100);
        KeepOurPlace far = Check.shelves(0, 0, 99, 0, 99, 0, 99);
        for (int i = 0; i < 8; i++) far.customer(2, 0);
        Check.row(far, 0, 0, 1, 0, 3, 2, 5, 4);
        Check.rule(far, "takes 0; lets 99; walks 99;");
        c.due("the least", far.likely(0), -100L * (8 * 198 + 6 * 18 * 99));
    }
}
