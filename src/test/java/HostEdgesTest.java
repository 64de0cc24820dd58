/** Promises 29 to 33 at their edges: each sentence that names one has a test of its own. */
public final class HostEdgesTest {
    private static final int MIN = Check.MIN, MAX = Check.MAX;
    private static final Check c = new Check();

    public static void main(String[] args) {
        missingAtFirst();
        sheetAndSort();
        sheetSize();
        sheetMissing();
        sheetAllZero();
        cellRefusals();
        cellOutside();
        cellOfBytes();
        cellOfShorts();
        cellOfInts();
        copyRefusals();
        copyMissing();
        copyUnlike();
        copyOutside();
        copyNone();
        copyOntoItself();
        copyOfAll();
        customersRefusals();
        customersUnlikeAndMissing();
        customersOutside();
        customersLeftOut();
        customersFull();
        customersOfNone();
        takenRefusals();
        takenUnder();
        c.end();
    }

    /** What item 1 of a SHEET tells, if it is 0 .. 409; else -1. Item 0 must be 0. */
    private static int second(KeepOurPlace x, int sheet, int sort) {
        while (x.count(0) > 0) x.serve();
        if (x.customers(sheet, sort, 0, 1) != 1) return -1;
        return 10 * x.told(0, 1) + x.told(0, 2);
    }

    /** The first items of a SHEET of bytes, each of 0 .. 9, as digits. */
    private static long digits(KeepOurPlace x, int sheet, int n) {
        long all = 0;
        for (int i = 0; i < n; i++) {
            x.sheet(3, 0, 2);
            x.copy(sheet, i, 3, 1, 1);
            all = all * 10 + second(x, 3, 0);
        }
        return all;
    }

    // ---- sheet

    private static void missingAtFirst() {
        c.says("29 SHEETS 0 .. 3 are missing (as all are at first)");
        KeepOurPlace x = new KeepOurPlace();
        c.inTurn("cell of sheet", s -> x.cell(s, 0, 0), -11, -11, -11, -11, -2);
    }

    private static void sheetAndSort() {
        c.says("29 BAD: no such SHEET, sort");
        KeepOurPlace x = new KeepOurPlace();
        c.each("sheet", s -> x.sheet(s, 0, 1), -2, -1, 4, 5, MIN, MAX);
        c.each("sheet that is missing", s -> x.sheet(s, -1, 0), -2, -1, 4);
        c.each("sheet of size below 0", s -> x.sheet(s, 0, -1), -2, -1, 4);
        c.each("sort", sort -> x.sheet(0, sort, 1), -2, -2, 3, 4, MIN, MAX);
        c.each("sort of size below 0", sort -> x.sheet(0, sort, -1), -2, -2, 3);
        c.due("still missing", x.cell(0, 0, 0), -11);
        c.inTurn("sheet", s -> x.sheet(s, s % 3, 1), 1, 1, 1, 1, -2);
    }

    private static void sheetSize() {
        c.says("29 BAD: n above 40; -14: a size below 0.");
        KeepOurPlace x = new KeepOurPlace();
        for (int s = 0; s < 3; s++) {
            int sort = s;
            c.each("n", n -> x.sheet(0, sort, n), -2, 41, 42, 255, MAX);
            c.each("n", n -> x.sheet(0, sort, n), -14, -1, -40, MIN);
        }
        c.due("still missing", x.cell(0, 0, 0), -11);
        c.due("none", x.sheet(0, 0, 0), 1);
        c.due("it has none", x.cell(0, 0, 0), -12);
        c.due("most", x.sheet(0, 0, 40), 1);
        c.due("the last", x.cell(0, 39, 0), 1);
        c.due("none behind", x.cell(0, 40, 0), -12);
        c.each("refused", n -> x.sheet(0, 0, n) == 1 ? 1 : 0, 0, 41, -1);
        c.due("it stays", x.cell(0, 39, 0), 1);
    }

    private static void sheetMissing() {
        c.says("29 or missing (sort -1: n does not matter)");
        KeepOurPlace x = new KeepOurPlace();
        for (int n : new int[] {0, -1, 40, 41, MIN, MAX}) {
            x.sheet(0, 2, 40);
            c.due("missing " + n, x.sheet(0, -1, n), 1);
            c.due("it is", x.cell(0, 0, 0), -11);
            c.due("missing already " + n, x.sheet(0, -1, n), 1);
        }
    }

    private static void sheetAllZero() {
        c.says("29 A SHEET becomes a row of n of a sort, all 0");
        KeepOurPlace x = new KeepOurPlace();
        Check.row(x, 0, 0, 1, 2, 3, 4, 5, 6, 7, 8);
        c.due("as told", digits(x, 0, 8), 12345678);
        x.sheet(0, 0, 8);
        c.due("all 0", digits(x, 0, 8), 0);
        Check.row(x, 0, 0, 1, 2, 3, 4, 5, 6, 7, 8);
        x.sheet(0, -1, 0);
        x.sheet(0, 0, 8);
        c.due("all 0 when it was missing", digits(x, 0, 8), 0);
        Check.row(x, 0, 0, 1, 2, 3, 4, 5, 6, 7, 8);
        x.sheet(0, 0, 2);
        x.sheet(0, 0, 8);
        c.due("all 0 when it was shorter", digits(x, 0, 8), 0);
        Check.row(x, 0, 2, 9, 9);
        x.sheet(0, 0, 2);
        c.due("all 0 when it was of another sort", digits(x, 0, 2), 0);
    }

    // ---- cell

    private static void cellRefusals() {
        c.says("30 BAD: no such SHEET; -11; -12.");
        KeepOurPlace x = new KeepOurPlace();
        c.each("cell of sheet", s -> x.cell(s, 0, 0), -2, -1, 4, MIN, MAX);
        c.each("cell of sheet, outside", s -> x.cell(s, -1, 0), -2, -1, 4);
        c.each("cell of one that is missing", i -> x.cell(0, i, 0), -11, 0, -1, 40, MIN, MAX);
    }

    private static void cellOutside() {
        c.says("30 -12 a place outside");
        KeepOurPlace x = new KeepOurPlace();
        for (int n : new int[] {0, 1, 40}) {
            x.sheet(0, 0, n);
            c.each("of " + n, i -> x.cell(0, i, 1), -12, -1, n, n + 1, MIN, MAX);
            if (n > 0) c.due("the last of " + n, x.cell(0, n - 1, 1), 1);
        }
        Check.row(x, 0, 0, 1, 2, 3);
        x.cell(0, 3, 9);
        x.cell(0, -1, 9);
        x.sheet(1, 0, 3);
        x.copy(0, 0, 1, 0, 3);
        c.due("it stays", digits(x, 1, 3), 123);
    }

    private static long becomes(int sort, int v) {
        KeepOurPlace x = new KeepOurPlace();
        Check.row(x, 0, sort, 0, v);
        return second(x, 0, sort);
    }

    private static void cellOfBytes() {
        c.says("30 Item i becomes v (of bytes its lowest 8 bits)");
        int[] v = {0, 1, 127, 128, 255, 256, 257, 383, 384, -1, -128, -129, -256, MIN, MAX, 65536 + 100};
        c.inTurn("byte", i -> becomes(0, v[i]), 0, 1, 127, -1, -1, 0, 1, 127, -1, -1, -1, 127, 0, 0, -1, 100);
    }

    private static void cellOfShorts() {
        c.says("30 Item i becomes v (of shorts its lowest 16 bits)");
        int[] v = {0, 1, 128, 255, 256, 409, 410, 32768, 65535, 65536, 65945, -1, -65535, -65127, -65536, MIN, MAX};
        c.inTurn("short", i -> becomes(1, v[i]), 0, 1, 128, 255, 256, 409, -1, -1, -1, 0, 409, -1, 1, 409, 0, 0, -1);
    }

    private static void cellOfInts() {
        c.says("30 Item i becomes v (of ints all of it)");
        int[] v = {0, 1, 128, 256, 409, 410, 65536, 65945, -1, -65536, MIN, MAX};
        c.inTurn("int", i -> becomes(2, v[i]), 0, 1, 128, 256, 409, -1, -1, -1, -1, -1, -1, -1);
    }

    // ---- copy

    private static void copyRefusals() {
        c.says("31 BAD: no such SHEET");
        KeepOurPlace x = new KeepOurPlace();
        x.sheet(0, 0, 2);
        for (int bad : new int[] {-1, 4, MIN, MAX}) {
            c.due("from " + bad, x.copy(bad, 0, 0, 0, 1), -2);
            c.due("to " + bad, x.copy(0, 0, bad, 0, 1), -2);
            c.due("from " + bad + " to one that is missing", x.copy(bad, 0, 1, 0, 1), -2);
            c.due("from one that is missing to " + bad, x.copy(1, 0, bad, 0, 1), -2);
            c.due("outside, to " + bad, x.copy(0, -1, bad, 0, -1), -2);
        }
    }

    private static void copyMissing() {
        c.says("31 -11");
        KeepOurPlace x = new KeepOurPlace();
        x.sheet(0, 0, 2);
        c.due("from", x.copy(1, 0, 0, 0, 1), -11);
        c.due("to", x.copy(0, 0, 1, 0, 1), -11);
        c.due("both", x.copy(1, 0, 2, 0, 0), -11);
        c.due("onto itself", x.copy(1, 0, 1, 0, 0), -11);
        c.due("ahead of outside", x.copy(0, 3, 1, -1, -1), -11);
    }

    private static void copyUnlike() {
        c.says("31 -13: they are of unlike sorts");
        KeepOurPlace x = new KeepOurPlace();
        for (int s = 0; s < 3; s++) x.sheet(s, s, 2);
        for (int a = 0; a < 3; a++) {
            for (int b = 0; b < 3; b++) {
                c.due(a + " to " + b, x.copy(a, 0, b, 0, 2), a == b ? 2 : -13);
                c.due("none, " + a + " to " + b, x.copy(a, 0, b, 0, 0), a == b ? 0 : -13);
                c.due("outside, " + a + " to " + b, x.copy(a, 3, b, -1, -1), a == b ? -12 : -13);
            }
        }
    }

    private static void copyOutside() {
        c.says("31 -12 (also with n below 0)");
        KeepOurPlace x = new KeepOurPlace();
        Check.row(x, 0, 0, 1, 2, 3, 4);
        Check.row(x, 1, 0, 5, 6, 7);
        c.each("n", n -> x.copy(0, 0, 1, 0, n), -12, -1, 4, 5, MIN, MAX);
        c.each("n onto itself", n -> x.copy(0, 1, 0, 0, n), -12, -1, 4, MIN, MAX);
        c.each("i", i -> x.copy(0, i, 1, 0, 1), -12, -1, 4, 5, MIN, MAX);
        c.each("j", j -> x.copy(0, 0, 1, j, 1), -12, -1, 3, 4, MIN, MAX);
        c.due("beyond the end of the one", x.copy(0, 2, 1, 0, 3), -12);
        c.due("beyond the end of the other", x.copy(0, 0, 1, 1, 3), -12);
        c.due("i and n beyond an int", x.copy(0, MAX, 1, 0, MAX), -12);
        c.due("j and n beyond an int", x.copy(0, 0, 1, MAX, MAX), -12);
        c.due("the other stays", digits(x, 1, 3), 567);
        c.due("just to the ends", x.copy(0, 1, 1, 0, 3), 3);
        c.due("they came", digits(x, 1, 3), 234);
        x.sheet(0, 0, 0);
        x.sheet(2, 0, 40);
        c.due("the last of the other", x.copy(1, 2, 2, 39, 1), 1);
        c.due("behind it", x.copy(1, 3, 2, 0, 1), -12);
        c.due("more than it has", x.copy(2, 0, 1, 0, 4), -12);
    }

    private static void copyNone() {
        c.says("31 n numbers of a SHEET: none");
        KeepOurPlace x = new KeepOurPlace();
        x.sheet(0, 0, 2);
        x.sheet(1, 0, 0);
        c.each("from", i -> x.copy(0, i, 1, 0, 0), 0, 0, 1, 2);
        c.each("from outside", i -> x.copy(0, i, 1, 0, 0), -12, -1, 3);
        c.each("to", j -> x.copy(1, 0, 0, j, 0), 0, 0, 1, 2);
        c.each("to outside", j -> x.copy(1, 0, 0, j, 0), -12, -1, 3);
    }

    private static void copyOntoItself() {
        c.says("31 come to another one's item j on (as they were)");
        KeepOurPlace x = new KeepOurPlace();
        Check.row(x, 0, 0, 1, 2, 3, 4, 5);
        c.due("towards the end", x.copy(0, 0, 0, 1, 4), 4);
        c.due("as they were", digits(x, 0, 5), 11234);
        Check.row(x, 0, 0, 1, 2, 3, 4, 5);
        c.due("towards the beginning", x.copy(0, 1, 0, 0, 4), 4);
        c.due("as they were, too", digits(x, 0, 5), 23455);
        c.due("where they stand", x.copy(0, 0, 0, 0, 5), 5);
        c.due("they stay", digits(x, 0, 5), 23455);
    }

    private static void copyOfAll() {
        c.says("31 n numbers of a SHEET: all 40");
        KeepOurPlace x = new KeepOurPlace();
        x.sheet(0, 0, 40);
        x.sheet(1, 0, 40);
        x.cell(0, 39, 7);
        c.due("40", x.copy(0, 0, 1, 0, 40), 40);
        x.copy(1, 39, 1, 0, 1);
        c.due("the last came", digits(x, 1, 1), 7);
        c.due("41", x.copy(0, 0, 1, 0, 41), -12);
    }

    // ---- customers, taken

    private static void customersRefusals() {
        c.says("32 n of them (0 .. 8). BAD: no such SHEET, sort, n");
        KeepOurPlace x = new KeepOurPlace();
        x.sheet(0, 0, 40);
        c.each("sheet", s -> x.customers(s, 0, 0, 1), -2, -1, 4, MIN, MAX);
        c.each("sort", sort -> x.customers(0, sort, 0, 1), -2, -1, 3, MIN, MAX);
        c.each("n", n -> x.customers(0, 0, 0, n), -2, -1, 9, MIN, MAX);
        c.each("n, of one that is missing", n -> x.customers(1, 0, 0, n), -2, -1, 9);
        c.each("sort, of one that is missing", sort -> x.customers(1, sort, 0, 0), -2, -1, 3);
        c.each("n, of another sort", n -> x.customers(0, 1, -1, n), -2, -1, 9);
        c.due("none came", x.count(0), 0);
        c.due("most", x.customers(0, 0, 0, 8), 8);
    }

    private static void customersUnlikeAndMissing() {
        c.says("32 a SHEET that is taken for one of a sort: -13; -11");
        KeepOurPlace x = new KeepOurPlace();
        for (int s = 0; s < 3; s++) x.sheet(s, s, 4);
        for (int is = 0; is < 3; is++) {
            for (int sort = 0; sort < 3; sort++) {
                c.due(is + " for " + sort, x.customers(is, sort, 0, 0), is == sort ? 0 : -13);
                c.due("outside, " + is + " for " + sort, x.customers(is, sort, 4, 1), is == sort ? -12 : -13);
            }
            c.due("missing for " + is, x.customers(3, is, 0, 0), -11);
            c.due("outside, missing for " + is, x.customers(3, is, -1, 8), -11);
        }
    }

    private static void customersOutside() {
        c.says("32 -12: what stood ahead came.");
        KeepOurPlace x = new KeepOurPlace();
        Check.row(x, 0, 1, 1, 11, 2, 22, 3);
        c.each("outside from", from -> x.customers(0, 1, from, 1), -12, -1, -2, 4, 5, 6, 40, MIN, MAX, MAX - 1);
        c.due("none came", x.count(0), 0);
        c.due("two and a half", x.customers(0, 1, 0, 3), -12);
        c.due("two came", x.count(0), 2);
        c.due("the second one's KIND", x.told(1, 0), 2);
        c.due("the second one's ITEMS", x.told(1, 1), 2);
        c.due("from the second on", x.customers(0, 1, 2, 2), -12);
        c.due("one came", x.count(0), 3);
        c.due("from the last whole one", x.customers(0, 1, 2, 1), 1);
        Check.row(x, 0, 1, 9, 9, 4);
        c.due("one that is left out, and a half", x.customers(0, 1, 0, 2), -12);
        c.due("none came then", x.count(0), 4);
        c.due("the first place of two", x.customers(0, 1, 2, 8), -12);
    }

    private static void customersLeftOut() {
        c.says("32 (as of customer()): how many came (others are left out)");
        KeepOurPlace x = new KeepOurPlace();
        Check.row(x, 0, 2, 0, 0, -1, 0, 6, 0, 0, -1, 0, 410, 5, 409, MIN, MAX);
        c.due("of seven", x.customers(0, 2, 0, 7), 2);
        c.due("two came", x.count(0), 2);
        c.due("the last", x.told(1, 1), 40);
        c.due("none of those", x.customers(0, 2, 2, 4), 0);
        Check.row(x, 0, 0, 1, 200);
        c.due("a byte below 0", x.customers(0, 0, 0, 1), 0);
        Check.row(x, 0, 1, 1, 200);
        c.due("a short of 200", x.customers(0, 1, 0, 1), 1);
    }

    private static void customersFull() {
        c.says("32 (others are left out): no room");
        KeepOurPlace x = new KeepOurPlace();
        Check.line(x, 1, 1, 1, 1, 1, 1);
        Check.row(x, 0, 1, 1, 11, 2, 22, 3, 33, 4, 44);
        c.due("two of four", x.customers(0, 1, 0, 4), 2);
        c.due("the last", x.told(7, 0), 2);
        c.due("none", x.customers(0, 1, 0, 4), 0);
        c.due("eight", x.count(0), 8);
        x.serve();
        c.due("one", x.customers(0, 1, 4, 2), 1);
        c.due("the first of them", x.told(7, 0), 3);
    }

    private static void customersOfNone() {
        c.says("32 n of them: none");
        KeepOurPlace x = new KeepOurPlace();
        x.sheet(0, 0, 0);
        c.each("from", from -> x.customers(0, 0, from, 0), 0, 0, -1, 1, 99, MIN, MAX);
        c.due("one of none", x.customers(0, 0, 0, 1), -12);
    }

    private static void takenRefusals() {
        c.says("33 BAD: k; -11: no such CUSTOMER; -13.");
        KeepOurPlace x = new KeepOurPlace();
        x.customer(5, 4);
        x.customer(0, 5);
        c.each("k", k -> x.taken(0, k), -2, -1, 6, MIN, MAX);
        c.each("k, of nobody", k -> x.taken(9, k), -2, -1, 6);
        c.each("customer", who -> x.taken(who, 0), -11, -1, 2, 8, MIN, MAX);
        c.each("customer, for another", who -> x.taken(who, 3), -11, -1, 2);
        c.inTurn("helped", k -> x.taken(0, k), 4, -13, -13, -13, -13, 4);
        c.inTurn("plain", k -> x.taken(1, k), 5, -13, -13, -13, -13, -13);
    }

    private static void takenUnder() {
        c.says("33 A CUSTOMER of KIND k (0 .. 5), or one under that one (also by others between): his NUMBER");
        KeepOurPlace x = new KeepOurPlace();
        for (int kind = 0; kind < 6; kind++) x.customer(kind, kind + 1);
        c.inTurn("as CUSTOMER", who -> x.taken(who, 0), 1, 2, 3, 4, 5, 6);
        c.inTurn("as PENNIES", who -> x.taken(who, 1), -13, 2, -13, 4, -13, -13);
        c.inTurn("as CARDED", who -> x.taken(who, 2), -13, -13, 3, -13, 5, -13);
        c.inTurn("as CHATTY", who -> x.taken(who, 3), -13, -13, -13, 4, -13, -13);
        c.inTurn("as COUPONED", who -> x.taken(who, 4), -13, -13, -13, -13, 5, -13);
        c.inTurn("as HELPED", who -> x.taken(who, 5), -13, -13, -13, -13, -13, 6);
        x.set(2, 3, 0);
        c.due("a NUMBER of 0", x.taken(3, 0), 0);
    }
}
