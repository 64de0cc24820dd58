/** Promises 15 to 20: what to leave, one thing more, where to stand, whom to change, two lines, LIKELY. */
public final class OtherwiseTest {
    private static final Check c = new Check();

    public static void main(String[] args) {
        leave();
        more();
        stand();
        change();
        lines();
        likely();
        c.end();
    }

    private static void leave() {
        KeepOurPlace x = Check.twoThings();
        c.due("15 the far one", x.leave(), 0);
        x.set(4, 1, 0);
        c.due("15 of one thing that one", x.leave(), 0);
        x.set(4, 0, 0);
        c.due("15 none", x.leave(), -1);
        c.due("15 nobody", new KeepOurPlace().leave(), -1);
        KeepOurPlace y = new KeepOurPlace();
        y.thing(11, 20100);
        y.thing(1, 20100);
        y.thing(11, 20100);
        c.due("15 best", y.best(0), 132);
        c.due("15 the others as they come: of like ones the one that comes first", y.leave(), 0);
        leaves("the far one in its midst, by 39, 30, 45", 4, 13, 16, 132, 2);
        leaves("the last, by 47, 62, 45", 4, 41, 71, 321, 0);
    }

    private static void leaves(String name, int a, int b, int d, int best, int leave) {
        KeepOurPlace x = new KeepOurPlace();
        x.thing(a, 99000);
        x.thing(b, 99000);
        x.thing(d, 99000);
        c.due("15 best, " + name, x.best(0), best);
        c.due("15 " + name, x.leave(), leave);
    }

    private static void more() {
        KeepOurPlace x = Check.twoThings();
        c.due("16 the first", x.more(0), 44 - 5);
        c.due("16 the second", x.more(1), 44 - 35);
        x.set(4, 1, 1);
        c.due("16 one that is not in it", x.more(1), 0);
        c.due("16 none such", x.more(2), -100000);
        c.due("16 none such below", x.more(-1), -100000);
        c.due("16 nothing", new KeepOurPlace().more(0), -100000);
    }

    private static void stands(String name, KeepOurPlace x, int place, int gain) {
        int was = x.count(2);
        c.due("17 " + name, x.stand(0), place);
        c.due("17 gain " + name, x.stand(1), gain);
        c.due("17 our place stays " + name, x.count(2), was);
    }

    private static void stand() {
        KeepOurPlace x = new KeepOurPlace();
        stands("nobody", x, 0, 0);
        x.thing(12, 50100);
        stands("nobody in line", x, 0, 35);
        for (int i = 0; i < 3; i++) x.customer(0, 100);
        stands("behind one", x, 1, 50);
        x.set(0, 0, 3);
        stands("wherever we are", x, 1, 50);
        Check.rule(x, "takes 3; lets 10; walks 9 - ours;");
        stands("by ours, as it would be", x, 2, 50);
        Check.rule(x, "takes 3; lets 10; walks ours;");
        stands("of like ones the least", x, 0, 50);
        Check.rule(x, "takes 1; lets 10; walks 5;");
        stands("behind all", x, 3, 50);
        c.due("17 what below", x.stand(-1), -100000);
        c.due("17 what above", x.stand(2), -100000);
    }

    private static void changes(String name, KeepOurPlace x, int pair, int turn) {
        c.due("18 " + name, x.change(0), pair);
        c.due("18 turn " + name, x.change(1), turn);
    }

    private static void change() {
        KeepOurPlace x = new KeepOurPlace();
        changes("nobody", x, -1, 0);
        x.customer(0, 100);
        x.customer(0, 50);
        x.customer(1, 50);
        x.customer(0, 200);
        changes("nobody ahead", x, -1, 0);
        x.set(0, 0, 1);
        changes("of like ones the first", x, 1, 15);
        x.set(0, 0, 2);
        changes("the second for nobody", x, 2, 30);
        x.set(1, 3, 0);
        changes("the last", x, 3, 15);
        x.set(0, 0, 4);
        changes("nobody behind", x, -1, 30 + 15 + 15);
        x.set(0, 0, 1);
        x.set(1, 0, 0);
        changes("none is less", x, -1, 0);
        c.due("18 what below", x.change(-1), -2);
        c.due("18 what above", x.change(2), -2);
        KeepOurPlace y = new KeepOurPlace();
        y.customer(0, 50);
        y.customer(0, 20);
        y.customer(0, 10);
        y.set(0, 0, 2);
        Check.rule(y, "takes place; lets 0; walks 0;");
        changes("in his place", y, 12, 1);
        c.due("18 all stay", y.told(1, 1), 2);
        Check.rule(y, "takes number; lets 0; walks 0;");
        y.set(2, 0, 1);
        changes("all else goes with them", y, 2, 0);
    }

    private static void lines() {
        KeepOurPlace x = new KeepOurPlace();
        for (int what = 0; what < 3; what++) c.due("19 nobody " + what, x.lines(what), 0);
        for (int i = 1; i <= 5; i++) x.customer(0, 10 * i);
        int[][] due = {{0, 0, 0}, {3, 0, 1}, {3, 6, 0}, {12, 6, 1}, {12, 18, 0}, {27, 18, 1}};
        for (int p = 0; p <= 5; p++) {
            x.set(0, 0, p);
            for (int what = 0; what < 3; what++) c.due("19 at " + p + ", " + what, x.lines(what), due[p][what]);
        }
        x.set(1, 0, 2);
        x.set(0, 0, 2);
        c.due("19 of like ones 0", x.lines(2), 0);
        Check.rule(x, "takes place; lets 0; walks 0;");
        x.set(0, 0, 5);
        c.due("19 places as in one line", x.lines(0), 2 * 3 + 4 * 5);
        c.due("19 places as in one line, the other", x.lines(1), 2 + 3 * 4);
        c.due("19 what below", x.lines(-1), -2);
        c.due("19 what above", x.lines(3), -2);
    }

    private static void likely() {
        KeepOurPlace x = Check.twoThings();
        Check.row(x, 0, 0, 0, 1);
        c.due("20 two", x.likely(0), 2500 + 1000 - 100 * 16);
        Check.row(x, 0, 1);
        c.due("20 none", x.likely(0), 0);
        Check.row(x, 0, 1, 0);
        x.set(5, 0, 1);
        c.due("20 below 0", x.likely(0), 50 - 100 * 15);
        x.customer(2, 200);
        c.due("20 what he minds", x.likely(0), 50 - 100 * 20);
        Check.rule(x, "takes 0; lets 99; walks 99;");
        x.set(3, 0, 99);
        c.due("20 far below 0", x.likely(0), 50 - 100L * (2 * 99 + 36 * 99));
        c.due("20 sheet below", x.likely(-1), KeepOurPlace.NO);
        c.due("20 sheet above", x.likely(4), KeepOurPlace.NO);
        c.due("20 missing", x.likely(1), KeepOurPlace.NO);
        Check.row(x, 1, 0, 0, 0);
        c.due("20 twice", x.likely(1), KeepOurPlace.NO);
        Check.row(x, 1, 0, 2);
        c.due("20 no thing", x.likely(1), KeepOurPlace.NO);
    }
}
