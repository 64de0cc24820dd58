/** Promises 21 to 28: slips, SERVED, films, drawn shelves, chances, THE IMAGE, counts. */
public final class SlipsTest {
    private static final Check c = new Check();

    public static void main(String[] args) {
        slip();
        served();
        film();
        drawn();
        chance();
        imageKeeps();
        imageRefuses();
        count();
        c.end();
    }

    private static void slips(KeepOurPlace x, int many, int first, int... row) {
        Check.row(x, 0, 2, row);
        c.due("21 how many of " + row.length, x.slip(0, 0), many);
        c.due("21 first of " + row.length, x.slip(0, 1), first);
    }

    private static void slip() {
        KeepOurPlace x = new KeepOurPlace();
        slips(x, 1, 0, 0);
        slips(x, 0, -1, 1);
        x.thing(12, 50050);
        x.thing(1, 10100);
        slips(x, 1, 12, 0, 1, 16);
        slips(x, 1, 12, 1, 0, 16);
        slips(x, 1, 21, 0, 1, 20);
        slips(x, 0, -1, 0, 1, 15);
        slips(x, 1, 1, 0, 15);
        slips(x, 1, 2, 1, 5);
        x.thing(12, 0);
        slips(x, 2, 13, 2, 0, 6 + 0 + 12);
        slips(x, 2, 132, 2, 1, 0, 6 + 0 + 2 * 4 + 5);
        slips(x, 2, 123, 2, 1, 0, 6 + 2 * 3 + 2 * 4 + 3 * 5);
        for (int i = 3; i < 6; i++) x.thing(12, 0);
        slips(x, 120, 134562, 0, 1, 2, 3, 4, 5, 6 + 2 * 7 + 8);
        c.due("21 best is as it was", x.best(0), 12);
        c.due("21 sheet below", x.slip(-1, 0), -2);
        c.due("21 sheet above", x.slip(4, 0), -2);
        c.due("21 what below", x.slip(0, -1), -2);
        c.due("21 what above", x.slip(0, 2), -2);
        c.due("21 what ahead of missing", x.slip(1, 2), -2);
        c.due("21 missing", x.slip(1, 0), -11);
        int[][] bad = {{}, {6, 0}, {-1, 0}, {0, 0, 0}, {0, 1, 2, 3, 4, 5, 0, 28}, new int[40]};
        for (int[] b : bad) {
            Check.row(x, 1, 2, b);
            c.due("21 bad row of " + b.length, x.slip(1, 0), -2);
            c.due("21 bad row of " + b.length + ", the first", x.slip(1, 1), -2);
        }
        Check.row(x, 1, 0, 0, 15);
        c.due("21 bytes", x.slip(1, 1), 1);
    }

    private static void served() {
        KeepOurPlace x = new KeepOurPlace();
        x.sheet(0, 2, 0);
        c.due("22 none of nobody", x.served(0, -1), -1);
        c.due("22 nobody", x.served(0, 0), -2);
        x.customer(0, 100);
        x.customer(3, 72);
        x.customer(4, 309);
        Check.row(x, 0, 2, 30, 81, 150);
        c.due("22 all are theirs", x.served(0, -1), -1);
        c.due("22 of the first", x.served(0, 0), 0b011111);
        c.due("22 of the second", x.served(0, 1), 0b001000);
        c.due("22 of the third", x.served(0, 2), 0b010000);
        Check.row(x, 0, 2, 15, 66, 135);
        c.due("22 the first", x.served(0, -1), 0);
        c.due("22 he was helped", x.served(0, 0), 0b100000);
        Check.row(x, 0, 1, 30, 61, 151);
        c.due("22 the second", x.served(0, -1), 1);
        c.due("22 pennies", x.served(0, 1), 0b000010);
        c.due("22 plain", x.served(0, 2), 0b000001);
        Check.row(x, 0, 2, 30, 81, 141);
        c.due("22 the third", x.served(0, -1), 2);
        c.due("22 carded", x.served(0, 2), 0b000100);
        Check.row(x, 0, 2, 30, 81);
        c.due("22 two are told of", x.served(0, -1), -1);
        c.due("22 of the third nothing", x.served(0, 2), -2);
        Check.row(x, 0, 2, 30, 0);
        c.due("22 below 0", x.served(0, 1), 0);
        x.set(2, 1, 1);
        x.set(1, 1, 0);
        Check.row(x, 0, 2, Integer.MAX_VALUE, Integer.MIN_VALUE);
        c.due("22 numbers far apart", x.served(0, 1), 0);
        c.due("22 who below", x.served(0, -2), -2);
        c.due("22 sheet below", x.served(-1, -1), -2);
        c.due("22 sheet above", x.served(4, -1), -2);
        c.due("22 missing", x.served(1, 9), -11);
        Check.row(x, 1, 2, 30, 31, 32, 33);
        c.due("22 more than there are", x.served(1, -1), -2);
        c.due("22 more than there are, of one", x.served(1, 0), -2);
    }

    private static void film() {
        KeepOurPlace x = new KeepOurPlace();
        x.customer(0, 100);
        x.customer(3, 72);
        x.customer(4, 309);
        c.due("23 three", x.film(0, 3), 3);
        c.due("23 they are theirs", x.served(0, -1), -1);
        c.due("23 three are told of", x.served(0, 3), -2);
        c.due("23 the third one's", x.served(0, 2), 0b010000);
        c.due("23 it has three", x.cell(0, 3, 0), -12);
        x.sheet(1, 2, 0);
        c.due("23 ints", x.copy(0, 0, 1, 0, 0), 0);
        c.due("23 n above", x.film(0, 4), -2);
        c.due("23 n below", x.film(0, -1), -2);
        c.due("23 sheet above", x.film(4, 0), -2);
        c.due("23 sheet below", x.film(-1, 0), -2);
        c.due("23 it stays", x.served(0, 2), 0b010000);
        c.due("23 of a row of bytes", x.sheet(2, 0, 40), 1);
        c.due("23 it becomes another", x.film(2, 1), 1);
        c.due("23 ints, too", x.copy(2, 0, 0, 0, 1), 1);
        c.due("23 none", x.film(0, 0), 0);
        c.due("23 it has none", x.cell(0, 0, 0), -12);
        x.set(0, 0, 3);
        for (int i = 0; i < 5; i++) x.customer(0, 409);
        Check.rule(x, "takes 99; lets 0; walks 0;");
        x.film(0, 8);
        c.due("23 beyond a short", x.served(0, -1), -1);
    }

    /** The first numbers that are drawn of seed 1: 27, 16, 78, 1, 43, 18; of seed -77: 36, 82, 18, 66, 30, 75. */
    private static void drawn() {
        int[][] rolls = {{27, 16, 78, 1, 43, 18}, {36, 82, 18, 66, 30, 75}};
        int[] seeds = {1, -77};
        for (int s = 0; s < 2; s++) {
            for (int t = 0; t < 6; t++) {
                KeepOurPlace x = new KeepOurPlace();
                for (int i = 0; i < 6; i++) x.thing(0, i == t ? 7000 + rolls[s][t] : 0);
                c.due("24 not there " + t, x.drawn(seeds[s]), 0);
                x.set(5, t, rolls[s][t] + 1);
                c.due("24 there " + t, x.drawn(seeds[s]), 7);
            }
        }
        KeepOurPlace x = new KeepOurPlace();
        c.due("24 nothing", x.drawn(1), 0);
        x.thing(12, 50028);
        x.thing(1, 10016);
        c.due("24 one of two", x.drawn(1), 35);
        x.set(5, 1, 17);
        c.due("24 both", x.drawn(1), 44);
        x.set(5, 0, 27);
        c.due("24 the other", x.drawn(1), 5);
        c.due("24 best is as it was", x.best(2), 44);
    }

    /** The first numbers of the seeds 1 .. 10: 27 30 33 28 32 35 38 33 37 40. */
    private static void chance() {
        KeepOurPlace x = new KeepOurPlace();
        c.due("25 of one", x.chance(5, 1, 0), 1);
        c.due("25 of one, below", x.chance(5, 1, 1), 1);
        x.customer(0, 100);
        x.thing(12, 50033);
        int[][] due = {{0, 1}, {0, 1}, {1, 3}, {1, 4}, {1, 5}, {1, 3}, {3, 7}, {1, 2}, {5, 9}, {3, 5}};
        for (int n = 1; n <= 10; n++) {
            c.due("25 above, of " + n, x.chance(1, n, 0), due[n - 1][0]);
            c.due("25 below, of " + n, x.chance(1, n, 1), due[n - 1][1]);
        }
        x.set(4, 0, 25);
        c.due("25 he is let by for 25", x.chance(1, 10, 0), 3);
        x.set(4, 0, 10);
        c.due("25 of like gains none is fetched", x.chance(1, 10, 1), 1);
        x.set(4, 0, 50);
        x.set(5, 0, 20);
        c.due("25 seeds beyond the greatest int", x.chance(2147483640, 4, 0), 3);
        c.due("25 of 20", x.chance(1, 20, 1), 1);
        x.set(5, 0, 100);
        c.due("25 never", x.chance(1, 20, 0), 0);
        c.due("25 never, below", x.chance(1, 20, 1), 1);
        x.set(0, 0, 1);
        c.due("25 nobody is behind", x.chance(1, 20, 0), 1);
        c.due("25 n below", x.chance(1, 0, 0), KeepOurPlace.NO);
        c.due("25 n above", x.chance(1, 21, 0), KeepOurPlace.NO);
        c.due("25 part below", x.chance(1, 1, -1), KeepOurPlace.NO);
        c.due("25 part above", x.chance(1, 1, 2), KeepOurPlace.NO);
    }

    private static void imageKeeps() {
        KeepOurPlace x = new KeepOurPlace();
        x.customer(1, 57);
        x.customer(4, 238);
        x.set(0, 0, 1);
        x.thing(34, 12034);
        c.due("26 two", x.image(), 2);
        for (int round = 0; round < 2; round++) {
            x.customer(5, 100);
            x.thing(7, 9009);
            x.set(0, 0, 3);
            for (int i = 0; i < 2; i++) {
                x.set(1, i, 1);
                x.set(2, i, 2);
            }
            for (int what = 3; what <= 5; what++) x.set(what, 0, 1);
            Check.rule(x, "takes 9; lets 9; walks 9;");
            x.feed('t');
            Check.row(x, 3, 0, 5);
            c.due("27 two", x.back(), 2);
            int[] counts = {2, 1, 1, 2 + round, 1, 0, 0};
            for (int i = 0; i < 7; i++) c.due("27 count " + i, x.count(i), counts[i]);
            int[] first = {1, 5, 7}, second = {4, 23, 8}, thing = {34, 12, 34};
            for (int i = 0; i < 3; i++) {
                c.due("27 first " + i, x.told(0, i), first[i]);
                c.due("27 second " + i, x.told(1, i), second[i]);
                c.due("27 thing " + i, x.told(0, 3 + i), thing[i]);
            }
            c.due("27 the second thing went", x.told(1, 3), -2);
            c.due("27 the sheet stays", x.cell(3, 0, 1), 1);
            x.text();
        }
        c.due("27 a kind comes anew", x.customer(2, 0), 2);
        c.due("27 it is told", x.told(2, 0), 2);
    }

    private static void imageRefuses() {
        KeepOurPlace x = new KeepOurPlace();
        c.due("27 there is none", x.back(), -3);
        c.due("26 nobody", x.image(), 0);
        x.customer(0, 10);
        x.customer(0, 20);
        x.customer(0, 30);
        c.due("27 they go", x.back(), 0);
        x.customer(0, 10);
        x.customer(0, 20);
        x.serve();
        c.due("27 one was served", x.back(), -3);
        c.due("27 he stays", x.count(0), 1);
        c.due("26 anew", x.image(), 1);
        x.set(1, 0, 9);
        c.due("27 served ahead of it does not matter", x.back(), 1);
        c.due("27 items", x.told(0, 1), 2);
        x.set(1, 0, 9);
        Check.rule(x, "takes 9; lets 9; walks 9;");
        x.image();
        x.set(1, 0, 8);
        x.force(0);
        x.back();
        c.due("27 the later image", x.told(0, 1), 9);
        c.due("27 the rule of it", x.count(5), 1);
    }

    private static void count() {
        KeepOurPlace x = new KeepOurPlace();
        for (int i = 0; i < 4; i++) x.customer(0, 0);
        for (int i = 0; i < 3; i++) x.thing(0, 0);
        x.set(0, 0, 3);
        Check.rule(x, "takes 0;lets 0;walks 0;");
        Check.text(x, "takes 0;lets 0;walks 0;");
        for (int i = 0; i < 5; i++) x.feed(1);
        x.serve();
        int[] counts = {3, 3, 2, 3, 5, 1, 1};
        for (int i = 0; i < 7; i++) c.due("28 count " + i, x.count(i), counts[i]);
        c.due("28 below", x.count(-1), -2);
        c.due("28 above", x.count(7), -2);
    }
}
