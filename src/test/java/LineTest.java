/** Promises 1 to 6 and 10: a new object, the line, the things, TURN. */
public final class LineTest {
    private static final Check c = new Check();

    public static void main(String[] args) {
        newObject();
        customer();
        thing();
        set();
        told();
        serve();
        turn();
        c.end();
    }

    private static void newObject() {
        KeepOurPlace x = new KeepOurPlace();
        int[] counts = {0, 0, 0, 1, 0, 0, 0};
        for (int i = 0; i < counts.length; i++) c.due("1 count " + i, x.count(i), counts[i]);
        for (int s = 0; s < 4; s++) c.due("1 sheet " + s + " is missing", x.cell(s, 0, 0), -11);
        c.due("1 turn", x.turn(), 0);
        c.due("1 back", x.back(), -3);
        c.due("1 told", x.told(0, 0), -2);
        c.due("1 told of a thing", x.told(0, 3), -2);
    }

    private static void customer() {
        KeepOurPlace x = new KeepOurPlace();
        c.due("2 kind below", x.customer(-1, 0), -2);
        c.due("2 kind above", x.customer(6, 0), -2);
        c.due("2 what below", x.customer(0, -1), -2);
        c.due("2 what above", x.customer(0, 410), -2);
        c.due("2 none came", x.count(0), 0);
        c.due("2 most", x.customer(5, 409), 0);
        c.due("2 kind", x.told(0, 0), 5);
        c.due("2 items", x.told(0, 1), 40);
        c.due("2 number", x.told(0, 2), 9);
        for (int i = 1; i < 8; i++) c.due("2 number of " + i, x.customer(i % 6, 10 * i + 3), i);
        c.due("2 full", x.customer(0, 0), -4);
        c.due("2 bad ahead of full", x.customer(0, 410), -2);
        c.due("2 kind ahead of full", x.customer(6, 0), -2);
        c.due("2 eight", x.count(0), 8);
        c.due("2 our place stays", x.count(2), 0);
    }

    private static void thing() {
        KeepOurPlace x = new KeepOurPlace();
        int[][] bad = {{-1, 0}, {100, 0}, {0, -1}, {0, 101}, {0, 999}, {0, 99101}, {0, 100000}, {0, Integer.MIN_VALUE}};
        for (int[] b : bad) c.due("3 " + b[0] + " " + b[1], x.thing(b[0], b[1]), -2);
        c.due("3 most", x.thing(99, 99100), 0);
        c.due("3 shelf", x.told(0, 3), 99);
        c.due("3 worth", x.told(0, 4), 99);
        c.due("3 chance", x.told(0, 5), 100);
        for (int i = 1; i < 6; i++) c.due("3 number", x.thing(i, 1000 * i), i);
        c.due("3 full", x.thing(0, 0), -4);
        c.due("3 bad ahead of full", x.thing(100, 0), -2);
        c.due("3 six", x.count(1), 6);
    }

    private static void set() {
        KeepOurPlace x = new KeepOurPlace();
        x.customer(0, 57);
        x.customer(1, 28);
        x.thing(34, 12034);
        c.due("4 place", x.set(0, 99, 2), 0);
        c.due("4 place was", x.set(0, -5, 1), 2);
        c.due("4 place above", x.set(0, 0, 3), -2);
        c.due("4 place below", x.set(0, 0, -1), -2);
        c.due("4 place stays", x.count(2), 1);
        int[] most = {0, 40, 9, 99, 99, 100};
        int[] was = {0, 5, 7, 34, 12, 34};
        for (int what = 1; what <= 5; what++) {
            c.due("4 above " + what, x.set(what, 0, most[what] + 1), -2);
            c.due("4 below " + what, x.set(what, 0, -1), -2);
            c.due("4 none such " + what, x.set(what, what < 3 ? 2 : 1, 0), -2);
            c.due("4 none such below " + what, x.set(what, -1, 0), -2);
            c.due("4 was " + what, x.set(what, 0, most[what]), was[what]);
            c.due("4 is " + what, x.told(0, what), most[what]);
            c.due("4 least " + what, x.set(what, 0, 0), most[what]);
        }
        c.due("4 what below", x.set(-1, 0, 0), -2);
        c.due("4 what above", x.set(6, 0, 0), -2);
        c.due("4 the other stays", x.told(1, 1), 2);
        c.due("4 the other's number stays", x.told(1, 2), 8);
    }

    private static void told() {
        // kind, what, SECONDS and MINDS by TEXT 0 (3 an item, 10)
        int[][] rows = {
            {0, 70, 21, 10}, {0, 409, 120, 10}, {1, 70, 21, 10}, {1, 74, 41, 10}, {2, 200, 60, 20}, {2, 190, 57, 20},
            {2, 210, 60, 20}, {2, 199, 57, 20}, {3, 72, 51, 0}, {3, 82, 34, 0}, {3, 0, 0, 0}, {3, 10, 23, 0},
            {4, 309, 69, 11}, {4, 19, 12, 11}, {4, 190, 57, 20}, {5, 70, 10, 11}, {5, 89, 12, 11},
        };
        for (int[] r : rows) {
            KeepOurPlace x = new KeepOurPlace();
            x.customer(0, 0);
            x.customer(r[0], r[1]);
            c.due("5 kind", x.told(1, 0), r[0]);
            c.due("5 items", x.told(1, 1), r[1] / 10);
            c.due("5 number", x.told(1, 2), r[1] % 10);
            c.due("5 seconds of kind " + r[0] + " " + r[1], x.told(1, 6), r[2]);
            c.due("5 minds of kind " + r[0] + " " + r[1], x.told(1, 7), r[3]);
        }
        KeepOurPlace x = new KeepOurPlace();
        x.customer(4, 9);
        x.customer(4, 5);
        x.thing(71, 23045);
        int[] ofThing = {71, 23, 45};
        for (int what = 3; what <= 5; what++) c.due("5 of a thing " + what, x.told(0, what), ofThing[what - 3]);
        int[][] bad = {{1, 3}, {-1, 4}, {1, 5}, {2, 0}, {2, 1}, {2, 2}, {2, 6}, {2, 7}, {-1, 0}, {-1, 6}, {0, -1}, {0, 8}};
        for (int[] b : bad) c.due("5 " + b[0] + " " + b[1], x.told(b[0], b[1]), -2);
        Check.rule(x, "takes 0; lets 2; walks 0;");
        c.due("5 minds are 0 at least", x.told(0, 7), 0);
        c.due("5 seconds of no items", x.told(0, 6), 9);
        Check.rule(x, "takes 0; lets wait + 7; walks 0;");
        c.due("5 nobody was let by", x.told(1, 7), 9);
    }

    private static void serve() {
        KeepOurPlace x = new KeepOurPlace();
        c.due("6 nobody", x.serve(), -3);
        x.customer(0, 101);
        x.customer(3, 72);
        x.customer(5, 103);
        x.set(0, 0, 1);
        c.due("6 first", x.serve(), 30);
        c.due("6 our place", x.count(2), 0);
        c.due("6 many", x.count(0), 2);
        c.due("6 the next is first", x.told(0, 0), 3);
        c.due("6 his number", x.told(0, 2), 2);
        c.due("6 the one behind", x.told(1, 1), 10);
        c.due("6 gone", x.told(2, 0), -2);
        c.due("6 second", x.serve(), 51);
        c.due("6 our place stays 0", x.count(2), 0);
        c.due("6 third", x.serve(), 15);
        c.due("6 none left", x.serve(), -3);
        c.due("6 served", x.count(6), 3);
        c.due("6 room again", x.customer(1, 0), 0);
    }

    private static void turn() {
        KeepOurPlace x = new KeepOurPlace();
        for (int i = 0; i < 6; i++) x.customer(i, 101);
        int[] due = {0, 30, 65, 95, 130, 161, 176};
        for (int p = 0; p <= 6; p++) {
            x.set(0, 0, p);
            c.due("10 at place " + p, x.turn(), due[p]);
        }
        Check.rule(x, "takes place; lets 0; walks 0;");
        c.due("10 by place", x.turn(), 0 + 15 + 20 + 35 + 41 + 25);
        Check.rule(x, "takes ours * many + number + items + wait; lets 0; walks 0;");
        x.set(0, 0, 1);
        c.due("10 by the names", x.turn(), 10 * (6 + 1 + 10));
    }
}
