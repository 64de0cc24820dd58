/** Promises 11 to 14: errands, the nearest first, the best, when to turn back. By TEXT 0. */
public final class ErrandsTest {
    private static final Check c = new Check();

    public static void main(String[] args) {
        errand();
        letBy();
        nearest();
        best();
        latest();
        c.end();
    }

    private static void tells(String name, KeepOurPlace x, int... due) {
        for (int what = 0; what < 4; what++) c.due("11 " + name + " " + what, x.errand(0, what), due[what]);
    }

    private static void bests(String name, KeepOurPlace x, int... due) {
        for (int what = 0; what < 4; what++) c.due("13 " + name + " " + what, x.best(what), due[what]);
    }

    private static void nears(String name, KeepOurPlace x, int... due) {
        for (int what = 0; what < 3; what++) c.due("12 " + name + " " + what, x.nearest(what), due[what]);
    }

    private static void errand() {
        KeepOurPlace x = Check.twoThings();
        int[][] orders = {{}, {0}, {1}, {0, 1}, {1, 0}};
        int[][] due = {{0, 0, 0, 0}, {15, 0, 35, 50}, {5, 0, 5, 10}, {16, 0, 44, 60}, {20, 0, 40, 60}};
        for (int i = 0; i < orders.length; i++) {
            for (int sort = 0; sort < 3; sort++) {
                Check.row(x, 0, sort, orders[i]);
                tells("errand " + i, x, due[i]);
            }
        }
        Check.row(x, 1, 0, 0, 1);
        c.due("11 of another sheet", x.errand(1, 0), 16);
        c.due("11 what below", x.errand(0, -1), -100000);
        c.due("11 what above", x.errand(0, 4), -100000);
        c.due("11 sheet below", x.errand(-1, 0), -100000);
        c.due("11 sheet above", x.errand(4, 0), -100000);
        c.due("11 missing", x.errand(2, 0), -100000);
        int[][] bad = {{2}, {-1}, {0, 0}, {0, 1, 0}, {0, 1, 2}, new int[40]};
        for (int[] b : bad) {
            Check.row(x, 0, 2, b);
            c.due("11 bad row of " + b.length, x.errand(0, 0), -100000);
        }
    }

    private static void letBy() {
        KeepOurPlace x = Check.twoThings();
        Check.row(x, 0, 0, 0);
        x.customer(0, 10);
        tells("one behind, and 12 seconds yet", x, 15, 1, 28, 50);
        x.set(1, 0, 5);
        tells("one behind is just enough", x, 15, 1, 40, 50);
        x.customer(0, 10);
        tells("the next one stays", x, 15, 1, 40, 50);
        x.set(3, 0, 13);
        tells("20 seconds: the next, too, and 2 yet", x, 20, 2, 50 - 10 - 15 - 2, 50);
        x.customer(4, 309);
        tells("a third: twice 20 less 9", x, 20, 3, 50 - 10 - 15 - 31, 50);
        x.set(0, 0, 1);
        tells("one is ahead", x, 20, 2, 50 - 10 - 21, 50);
        x.set(0, 0, 3);
        tells("all ahead", x, 20, 0, 50, 50);
        x.set(0, 0, 0);
        x.set(5, 0, 0);
        tells("whatever the chance", x, 20, 3, 50 - 10 - 15 - 31, 50);
        Check.rule(x, "takes place; lets place * 10 + wait + ours; walks 3 - items;");
        tells("0 of the first, 1 of the second, 60 at most of the third", x, 4 * 3 + 4 * 2, 3, 50 - 0 - 11 - 35, 50);
        x.set(0, 0, 1);
        tells("ours tells, too; TURN is 0", x, 20, 2, 50 - 11 - 35, 50);
    }

    private static void nearest() {
        KeepOurPlace x = Check.twoThings();
        nears("no time", x, 0, 0, 0);
        x.customer(1, 51);
        x.set(0, 0, 1);
        nears("just time, TURN is 20", x, 21, 20, 60);
        x.set(1, 0, 4);
        nears("TURN is 17", x, 2, 5, 10);
        x.set(1, 0, 5);
        x.set(4, 0, 0);
        nears("whatever the worth", x, 21, 20, 10);
        x.set(3, 0, 1);
        nears("of like ones the first", x, 12, 2 + 0 + 4, 10);
        KeepOurPlace y = new KeepOurPlace();
        y.customer(4, 102);
        y.set(0, 0, 1);
        y.thing(2, 10100);
        y.thing(5, 10100);
        y.thing(30, 10100);
        c.due("12 TURN", y.turn(), 32);
        nears("the nearest alone tells when to go back", y, 1, 10, 10);
        c.due("12 what below", y.nearest(-1), -100000);
        c.due("12 what above", y.nearest(3), -100000);
        nears("nobody", new KeepOurPlace(), 0, 0, 0);
    }

    private static void best() {
        KeepOurPlace x = Check.twoThings();
        bests("two", x, 12, 16, 44, 0);
        x.set(4, 0, 10);
        bests("both are dear", x, 2, 5, 5, 0);
        x.set(4, 1, 5);
        bests("of like ones none", x, 0, 0, 0, 0);
        x.customer(0, 100);
        x.set(4, 0, 50);
        bests("of 40 (15 seconds, his 10 minds), and 45 (16)", x, 12, 16, 45, 1);
        x.set(4, 1, 0);
        bests("fewest things", x, 1, 15, 40, 1);
        x.set(0, 0, 1);
        bests("whoever is ahead gives time", x, 1, 15, 50, 0);
        x.set(4, 1, 1);
        bests("the first of like ones", x, 12, 16, 51, 0);
        x.set(3, 1, 0);
        bests("the first in order, not the soonest", x, 12, 15, 51, 0);
        x.set(3, 0, 0);
        x.set(3, 1, 12);
        bests("though it is later", x, 12, 0 + 9 + 12, 51, 0);
        c.due("13 what below", x.best(-1), -100000);
        c.due("13 what above", x.best(4), -100000);
        bests("nobody", new KeepOurPlace(), 0, 0, 0, 0);
        KeepOurPlace all = new KeepOurPlace();
        for (int i = 0; i < 8; i++) all.customer(0, 400);
        all.set(0, 0, 8);
        for (int i = 0; i < 6; i++) all.thing(10 * (9 - i) + i, 1000);
        bests("six things in like gain", all, 123456, 18 + 6 + 8 + 10 + 12 + 14 + 9 * 8, 6, 0);
    }

    private static void latest() {
        KeepOurPlace x = Check.twoThings();
        x.customer(0, 100);
        x.set(0, 0, 1);
        c.due("14 bare", x.latest(0, 0), 24);
        c.due("14 two things", x.latest(0, 2), 18);
        c.due("14 six things", x.latest(0, 6), 6);
        c.due("14 the other", x.latest(1, 1), 27);
        x.set(3, 0, 69);
        c.due("14 just", x.latest(0, 0), 0);
        x.set(3, 0, 79);
        c.due("14 none", x.latest(0, 0), -1);
        c.due("14 n below", x.latest(0, -1), -2);
        c.due("14 n above", x.latest(0, 7), -2);
        c.due("14 thing above", x.latest(2, 0), -2);
        c.due("14 thing below", x.latest(-1, 0), -2);
    }
}
