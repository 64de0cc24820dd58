import java.math.BigInteger;

/** Promises 21 to 27 at their edges: each sentence that names one has a test of its own. By TEXT 0, if none is told. */
public final class SlipsEdgesTest {
    private static final int MIN = Check.MIN, MAX = Check.MAX;
    private static final Check c = new Check();

    public static void main(String[] args) {
        slipSheetAndWhat();
        slipMissing();
        slipRows();
        slipOfBackAlone();
        slipMakesThatBack();
        slipOfSix();
        servedSheet();
        servedMissing();
        servedOfMore();
        servedWho();
        servedFirst();
        servedKinds();
        filmRefusals();
        filmTruly();
        filmOfNoneAndOfAll();
        filmByPlace();
        drawnBelowChance();
        drawnNeverAndAlways();
        drawnOfWhatIsThere();
        chanceRefusals();
        chanceOfOneAndOfTwenty();
        chanceSeedsWrap();
        chanceLetBy();
        imageOfNobodyAndOfAll();
        imageKeepsEach();
        imageLetsTheRestBe();
        backOfNone();
        backAfterServed();
        backTwice();
        c.end();
    }

    // ---- slips

    private static void slip(String name, KeepOurPlace x, int many, int first, int... row) {
        Check.row(x, 0, 2, row);
        c.inTurn(name + ": slip", what -> x.slip(0, what), many, first);
    }

    private static void slipSheetAndWhat() {
        c.says("21 BAD: SHEET, what");
        KeepOurPlace x = Check.twoThings();
        Check.row(x, 0, 2, 0, 15);
        c.each("slip of sheet", s -> x.slip(s, 0), -2, -1, 4, MIN, MAX);
        c.each("slip", what -> x.slip(0, what), -2, -1, 2, MIN, MAX);
        c.due("as told", x.slip(0, 0), 1);
    }

    private static void slipMissing() {
        c.says("21 BAD: SHEET, what; -11");
        KeepOurPlace x = Check.twoThings();
        c.each("slip of sheet", s -> x.slip(s, 0), -11, 0, 1, 2, 3);
        c.due("what, ahead of that", x.slip(0, 2), -2);
        x.sheet(0, 2, 0);
        c.due("no more", x.slip(0, 0), -2);
        x.sheet(0, -1, 0);
        c.due("missing again", x.slip(0, 1), -11);
    }

    private static void slipRows() {
        KeepOurPlace x = Check.twoThings();
        c.says("21 BAD: it is empty");
        for (int sort = 0; sort < 3; sort++) {
            x.sheet(0, sort, 0);
            c.inTurn("slip", what -> x.slip(0, what), -2, -2);
        }
        c.says("21 BAD: tells what is no THING");
        for (int no : new int[] {2, -1, 6, MIN, MAX}) slip("of " + no, x, -2, -2, 0, no, 15);
        c.says("21 BAD: any twice");
        slip("the same", x, -2, -2, 0, 0, 15);
        slip("the first again", x, -2, -2, 0, 1, 0, 16);
        Check.row(x, 0, 2, new int[40]);
        c.inTurn("40 numbers", what -> x.slip(0, what), -2, -2);
    }

    private static void slipOfBackAlone() {
        c.says("21 BACK as the last number; 0: no THINGS");
        KeepOurPlace x = new KeepOurPlace();
        slip("no seconds", x, 1, 0, 0);
        for (int back : new int[] {1, -1, MIN, MAX}) slip("seconds " + back, x, 0, -1, back);
        x.thing(0, 0);
        slip("0 again is BACK, no THING", x, 1, 1, 0, 0);
        slip("99 is BACK, no THING", x, 0, -1, 0, 99);
        slip("no THINGS still", x, 1, 0, 0);
    }

    private static void slipMakesThatBack() {
        c.says("21 how many orders of just these make that BACK; the first, as digits (NONE)");
        KeepOurPlace x = Check.twoThings();
        slip("1 less", x, 0, -1, 0, 14);
        slip("just", x, 1, 1, 0, 15);
        slip("1 more", x, 0, -1, 0, 16);
        slip("less than that of both", x, 0, -1, 0, 1, 15);
        slip("of both the one", x, 1, 12, 1, 0, 16);
        slip("of both the other", x, 1, 21, 0, 1, 20);
        slip("below 0", x, 0, -1, 0, 1, -16);
        Check.row(x, 0, 0, 0, 15 + 256);
        c.due("a byte's lowest 8 bits", x.slip(0, 0), 1);
    }

    private static void slipOfSix() {
        c.says("21 in whatever order; the first");
        KeepOurPlace x = Check.shelves(0, 0, 0, 0, 0, 0, 0);
        slip("of six", x, 720, 123456, 5, 4, 3, 2, 1, 0, 0);
        slip("of the last five", x, 120, 23456, 5, 3, 1, 2, 4, 0);
        slip("of two", x, 2, 25, 4, 1, 0);
        slip("none of six", x, 0, -1, 5, 4, 3, 2, 1, 0, 1);
        x.set(3, 3, 1);
        slip("the fourth one last", x, 120, 123564, 0, 1, 2, 3, 4, 5, 7 + 8);
        slip("the fourth one first", x, 120, 412356, 0, 1, 2, 3, 4, 5, 2 + 3);
    }

    // ---- served, film

    /** Customers of 1, 2 and 3 items: through at 3, 9, 18. */
    private static KeepOurPlace three() {
        KeepOurPlace x = new KeepOurPlace();
        Check.line(x, 1, 2, 3);
        return x;
    }

    private static void servedSheet() {
        c.says("22 BAD: SHEET");
        KeepOurPlace x = three();
        c.each("served of sheet", s -> x.served(s, -1), -2, -1, 4, MIN, MAX);
        c.each("served of sheet, who", s -> x.served(s, 99), -2, -1, 4);
    }

    private static void servedMissing() {
        c.says("22 BAD: SHEET; -11");
        KeepOurPlace x = three();
        c.each("served of sheet", s -> x.served(s, -1), -11, 0, 1, 2, 3);
        c.each("who, behind that", who -> x.served(0, who), -11, -2, 0, 3, MIN, MAX);
    }

    private static void servedOfMore() {
        c.says("22 BAD: it tells more than there are");
        KeepOurPlace x = three();
        Check.row(x, 0, 2, 3, 9, 18);
        c.due("as many", x.served(0, -1), -1);
        Check.row(x, 0, 2, 3, 9, 18, 18);
        c.each("one more", who -> x.served(0, who), -2, -1, 0, 3);
        x.customer(0, 0);
        c.due("as many again", x.served(0, -1), -1);
        x.serve();
        c.due("one more again", x.served(0, -1), -2);
        KeepOurPlace nobody = new KeepOurPlace();
        nobody.sheet(0, 2, 0);
        c.due("none of nobody", nobody.served(0, -1), -1);
        nobody.sheet(0, 2, 1);
        c.due("one of nobody", nobody.served(0, -1), -2);
    }

    private static void servedWho() {
        c.says("22 KINDS of a CUSTOMER (who: of whom the SHEET tells). BAD: who");
        KeepOurPlace x = three();
        Check.row(x, 0, 2, 3, 9);
        c.each("who", who -> x.served(0, who), -2, -2, 2, 3, 8, MIN, MAX);
        c.inTurn("of those that it tells of", who -> x.served(0, who), 0b010111, 0b011111);
        x.sheet(0, 2, 0);
        c.each("it tells of nobody", who -> x.served(0, who), -2, 0, 1, -2);
        c.due("none", x.served(0, -1), -1);
    }

    private static void servedFirst() {
        c.says("22 the first whose own aren't his SECONDS; NONE");
        KeepOurPlace x = three();
        int[][] rows = {{3, 9, 18}, {4, 10, 19}, {2, 8, 17}, {3, 8, 17}, {3, 10, 19}, {3, 9, 17}, {3, 9, 19}, {0, 0, 0}, {}};
        c.inTurn("row", i -> {
            Check.row(x, 0, 2, rows[i]);
            return x.served(0, -1);
        }, -1, 0, 0, 1, 1, 2, 2, 0, -1);
    }

    private static void servedKinds() {
        c.says("22 KINDS of one (bits 0 .. 5) by which his own would be his SECONDS");
        KeepOurPlace x = new KeepOurPlace();
        x.customer(0, 0);
        Check.row(x, 0, 2, 0);
        c.due("all", x.served(0, 0), 0b111111);
        Check.row(x, 0, 2, 1);
        c.due("none", x.served(0, 0), 0);
        Check.row(x, 0, 2, -1);
        c.due("below 0", x.served(0, 0), 0);
        x.set(1, 0, 21);
        x.set(2, 0, 9);
        int[] seconds = {63, 108, 60, 128, 69, 31};
        c.inTurn("one alone", kind -> {
            Check.row(x, 0, 2, seconds[kind]);
            return x.served(0, 0);
        }, 1, 2, 4, 8, 16, 32);
    }

    private static void filmRefusals() {
        c.says("23 the first n CUSTOMERS: n. BAD.");
        KeepOurPlace x = three();
        c.each("film to sheet", s -> x.film(s, 1), -2, -1, 4, MIN, MAX);
        c.each("film of", n -> x.film(0, n), -2, -1, 4, 8, 40, 41, MIN, MAX);
        c.due("still missing", x.served(0, -1), -11);
        Check.row(x, 1, 0, 7);
        c.due("refused", x.film(1, 4), -2);
        c.due("it stays as it was", x.served(1, -1), 0);
    }

    private static void filmTruly() {
        c.says("23 A SHEET truly becomes seconds (ints)");
        KeepOurPlace x = three();
        x.sheet(3, 2, 0);
        for (int sort = -1; sort < 3; sort++) {
            x.sheet(0, sort, 40);
            c.due("film", x.film(0, 2), 2);
            c.due("they are theirs", x.served(0, -1), -1);
            c.due("there are two", x.cell(0, 2, 0), -12);
            c.due("ints", x.copy(0, 0, 3, 0, 0), 0);
        }
        x.film(0, 3);
        x.set(1, 0, 2);
        c.due("it stays when they change", x.served(0, -1), 0);
    }

    private static void filmOfNoneAndOfAll() {
        c.says("23 n CUSTOMERS: none, all 8");
        KeepOurPlace x = new KeepOurPlace();
        c.due("nobody", x.film(0, 0), 0);
        c.due("one of nobody", x.film(0, 1), -2);
        c.due("an empty row", x.cell(0, 0, 0), -12);
        c.due("which is there", x.served(0, -1), -1);
        for (int i = 0; i < 8; i++) x.customer(3, 399);
        Check.rule(x, "takes 99; lets 0; walks 0;");
        c.due("all", x.film(0, 8), 8);
        c.due("all are theirs", x.served(0, -1), -1);
        c.due("KINDS of the last", x.served(0, 7), 0b001000);
        c.due("there are eight", x.cell(0, 8, 0), -12);
    }

    private static void filmByPlace() {
        c.says("22, 23 his SECONDS, where he stands, on each SHEET");
        for (int sheet = 0; sheet < 4; sheet++) {
            KeepOurPlace x = three();
            Check.rule(x, "takes 1 + place * 2; lets 0; walks 0;");
            c.due("film", x.film(sheet, 3), 3);
            c.due("they are theirs", x.served(sheet, -1), -1);
            Check.row(x, sheet, 1, 1, 1 + 6, 1 + 6 + 15);
            c.due("as told", x.served(sheet, -1), -1);
            c.due("KINDS of the third", x.served(sheet, 2), 0b010111);
            Check.row(x, sheet, 1, 1, 1 + 2, 1 + 2 + 15);
            c.due("as if the second stood first", x.served(sheet, -1), 1);
            c.due("KINDS of him", x.served(sheet, 1), 0);
        }
    }

    // ---- drawn, chance

    /** (z >>> 9) % 100 of the thing of that number, by a long that holds the int's 32 bits. */
    private static int roll(int seed, int thing) {
        long z = seed & 0xffffffffL;
        for (int i = 0; i <= thing; i++) z = (z * 1103515245L + 12345L) & 0xffffffffL;
        return (int) ((z >> 9) % 100);
    }

    private static void drawnBelowChance() {
        c.says("24 z = z * 1103515245 + 12345 (an int): it is there, if (z >>> 9) % 100 is below CHANCE");
        for (int seed : new int[] {0, 1, -1, 12345, -77, MAX, MIN}) {
            for (int t = 0; t < 6; t++) {
                KeepOurPlace x = new KeepOurPlace();
                for (int i = 0; i < 6; i++) x.thing(0, i == t ? 7000 + roll(seed, t) : 7000);
                c.due("just its CHANCE, of " + t + ", seed " + seed, x.drawn(seed), 0);
                x.set(5, t, roll(seed, t) + 1);
                c.due("1 below it, of " + t + ", seed " + seed, x.drawn(seed), 7);
            }
        }
    }

    private static void drawnNeverAndAlways() {
        c.says("24 a CHANCE (0 .. 100 of 100)");
        KeepOurPlace never = new KeepOurPlace();
        never.thing(0, 7000);
        KeepOurPlace always = Check.shelves(7, 0);
        int least = 100, most = 0;
        for (int seed = 0; seed < 500; seed++) {
            c.due("of 0, seed " + seed, never.drawn(seed), 0);
            c.due("of 100, seed " + seed, always.drawn(seed), 7);
            least = Math.min(least, roll(seed, 0));
            most = Math.max(most, roll(seed, 0));
        }
        c.due("the least that was drawn", least, 0);
        c.due("the most that was drawn", most, 99);
    }

    private static void drawnOfWhatIsThere() {
        c.says("24 GAIN of BEST, those that aren't there being nowhere");
        c.due("nothing to fetch", new KeepOurPlace().drawn(5), 0);
        KeepOurPlace x = Check.twoThings();
        x.set(5, 0, roll(5, 0));
        x.set(5, 1, roll(5, 1));
        c.due("neither", x.drawn(5), 0);
        x.set(5, 1, roll(5, 1) + 1);
        c.due("the second", x.drawn(5), 5);
        x.set(5, 0, roll(5, 0) + 1);
        c.due("both", x.drawn(5), 44);
        x.set(5, 1, roll(5, 1));
        c.due("the first", x.drawn(5), 35);
    }

    private static void chanceRefusals() {
        c.says("25 NO: n, part. (1 .. 20)");
        KeepOurPlace x = Check.twoThings();
        c.each("chance of", n -> x.chance(1, n, 0), KeepOurPlace.NO, 0, -1, 21, MIN, MAX);
        c.each("chance, part", part -> x.chance(1, 1, part), KeepOurPlace.NO, -1, 2, MIN, MAX);
        c.each("chance of, part 2", n -> x.chance(1, n, 2), KeepOurPlace.NO, 0, 21);
    }

    private static void chanceOfOneAndOfTwenty() {
        c.says("25 part 0 above, 1 below the line, in lowest terms");
        KeepOurPlace x = new KeepOurPlace();
        Check.line(x, 10);
        for (int n = 1; n <= 20; n++) {
            int many = n;
            c.inTurn("all of " + n, part -> x.chance(9, many, part), 1, 1);
        }
        x.thing(12, 50100);
        for (int n = 1; n <= 20; n++) {
            int many = n;
            c.inTurn("none of " + n, part -> x.chance(9, many, part), 0, 1);
        }
    }

    private static void chanceSeedsWrap() {
        c.says("25 SEED and each 1 more (an int)");
        for (int seed : new int[] {0, -10, MAX, MAX - 5, MAX - 19, MIN}) {
            KeepOurPlace x = new KeepOurPlace();
            Check.line(x, 10);
            x.thing(12, 50050);
            for (int n = 1; n <= 20; n++) {
                int many = n, calm = 0;
                for (int i = 0; i < n; i++) if (roll((int) ((long) seed + i), 0) >= 50) calm++;
                int both = Math.max(1, BigInteger.valueOf(calm).gcd(BigInteger.valueOf(n)).intValue());
                c.inTurn("of " + n + " from " + seed, part -> x.chance(seed, many, part), calm / both, n / both);
            }
        }
    }

    private static void chanceLetBy() {
        c.says("25 of these those by which nobody is LET BY in that");
        KeepOurPlace x = Check.shelves(50, 12);
        c.inTurn("nobody is in line", part -> x.chance(1, 20, part), 1, 1);
        Check.line(x, 5, 40);
        c.inTurn("one is", part -> x.chance(1, 20, part), 0, 1);
        x.set(0, 0, 1);
        c.inTurn("15 seconds are ahead", part -> x.chance(1, 20, part), 1, 1);
        x.set(1, 0, 4);
        c.inTurn("12 seconds are ahead", part -> x.chance(1, 20, part), 0, 1);
        x.set(4, 0, 10);
        c.inTurn("it is not worth it", part -> x.chance(1, 20, part), 1, 1);
    }

    // ---- image, back

    private static void imageOfNobodyAndOfAll() {
        c.says("26 AN IMAGE is kept: how many CUSTOMERS. (CUSTOMERS, THINGS that came since go)");
        KeepOurPlace x = new KeepOurPlace();
        c.due("nobody", x.image(), 0);
        for (int i = 0; i < 8; i++) x.customer(i % 6, i);
        for (int i = 0; i < 6; i++) x.thing(i, 0);
        x.set(0, 0, 8);
        c.due("all go", x.back(), 0);
        c.inTurn("count", x::count, 0, 0, 0, 1, 0, 0, 0);
        c.inTurn("room for all", i -> x.customer(5 - i % 6, 10 * i), 0, 1, 2, 3, 4, 5, 6, 7, -4);
        c.inTurn("room for all things", i -> x.thing(99, 0), 0, 1, 2, 3, 4, 5, -4);
        c.due("all", x.image(), 8);
        c.due("all stay", x.back(), 8);
        c.inTurn("their KINDS", i -> x.told(i, 0), 5, 4, 3, 2, 1, 0, 5, 4);
        c.due("things, too", x.count(1), 6);
    }

    private static void imageKeepsEach() {
        c.says("26 AN IMAGE keeps NUMBERS, ITEMS, OUR PLACE, SHELVES, WORTH, CHANCES, THE RULE");
        for (int k = 0; k <= 5; k++) {
            int what = k;
            for (int of = 0; of < (what < 3 ? 8 : 6); of++) {
                KeepOurPlace x = new KeepOurPlace();
                for (int i = 0; i < 8; i++) x.customer(1, 11 * i + 10);
                for (int i = 0; i < 6; i++) x.thing(11 * i, 1001 * i);
                x.set(0, 0, 5);
                x.image();
                int who = of;
                int was = x.set(what, who, 8);
                c.due("back", x.back(), 8);
                c.due("set " + what + " of " + who, x.set(what, who, 0), was);
            }
        }
        KeepOurPlace x = three();
        Check.text(x, "takes 7; lets 7; walks 7;");
        x.image();
        x.force(1);
        x.back();
        c.due("THE RULE", x.count(5), 0);
        c.due("seconds by it", x.told(0, 6), 3);
    }

    private static void imageLetsTheRestBe() {
        c.says("27 All that it keeps is as in THE IMAGE: TEXTS, THE TAPE, SHEETS, who were served are not in it");
        KeepOurPlace x = three();
        x.serve();
        x.image();
        Check.text(x, "takes 7; lets 7; walks 7;");
        Check.feed(x, "ta");
        Check.row(x, 2, 0, 0);
        c.due("back", x.back(), 2);
        c.inTurn("count", x::count, 2, 0, 0, 2, 2, 0, 1);
        c.due("the sheet stays", x.cell(2, 0, 0), 1);
        c.due("the text stays", x.force(1), 0);
        c.due("what the tape told", Check.text(x, "kes 3!"), -107);
    }

    private static void backOfNone() {
        c.says("27 STATE: there is none");
        KeepOurPlace x = three();
        c.due("none", x.back(), -3);
        c.due("all stay", x.count(0), 3);
        x.image();
        c.due("there is one", x.back(), 3);
    }

    private static void backAfterServed() {
        c.says("27 STATE: any was served since");
        KeepOurPlace x = three();
        x.serve();
        x.image();
        c.due("served ahead of it", x.back(), 2);
        x.serve();
        x.set(1, 0, 40);
        c.due("one was served since", x.back(), -3);
        c.due("what is stays", x.told(0, 1), 40);
        x.customer(0, 0);
        c.due("as many as there were", x.back(), -3);
        c.due("anew", x.image(), 2);
        c.due("there is one", x.back(), 2);
        KeepOurPlace nobody = new KeepOurPlace();
        nobody.image();
        c.due("nobody to serve", nobody.serve(), -3);
        c.due("so nobody was served", nobody.back(), 0);
    }

    private static void backTwice() {
        c.says("27 THE IMAGE stays, until AN IMAGE is kept anew");
        KeepOurPlace x = three();
        x.image();
        for (int round = 0; round < 3; round++) {
            x.set(1, 2, 9);
            Check.line(x, 5, 5);
            c.due("back", x.back(), 3);
            c.due("items", x.told(2, 1), 3);
        }
        x.set(1, 2, 9);
        Check.line(x, 5);
        c.due("anew", x.image(), 4);
        x.set(1, 2, 8);
        c.due("back to that", x.back(), 4);
        c.due("items of that", x.told(2, 1), 9);
    }
}
