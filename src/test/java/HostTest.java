/** Promises 29 to 33: sheets, and CUSTOMERS taken by them and for a KIND. */
public final class HostTest {
    private static final Check c = new Check();

    public static void main(String[] args) {
        sheet();
        cell();
        copy();
        customers();
        taken();
        c.end();
    }

    private static void sheet() {
        KeepOurPlace x = new KeepOurPlace();
        c.due("29 sheet below", x.sheet(-1, 0, 0), -2);
        c.due("29 sheet above", x.sheet(4, 0, 0), -2);
        c.due("29 sort below", x.sheet(0, -2, 0), -2);
        c.due("29 sort above", x.sheet(0, 3, 0), -2);
        c.due("29 n above", x.sheet(0, 0, 41), -2);
        c.due("29 n below", x.sheet(0, 0, -1), -14);
        c.due("29 n far below", x.sheet(0, 2, Integer.MIN_VALUE), -14);
        c.due("29 sort ahead of n", x.sheet(0, 3, -1), -2);
        c.due("29 still missing", x.cell(0, 0, 0), -11);
        for (int s = 0; s < 4; s++) {
            c.due("29 most", x.sheet(s, s % 3, 40), 1);
            c.due("29 last", x.cell(s, 39, 1), 1);
            c.due("29 behind", x.cell(s, 40, 1), -12);
        }
        c.due("29 refused", x.sheet(0, 0, 41), -2);
        c.due("29 it stays", x.cell(0, 39, 1), 1);
        c.due("29 none", x.sheet(1, 0, 0), 1);
        c.due("29 it has none", x.cell(1, 0, 0), -12);
        c.due("29 missing, whatever n", x.sheet(2, -1, 99), 1);
        c.due("29 missing, whatever n below", x.sheet(3, -1, -99), 1);
        c.due("29 it is missing", x.cell(2, 0, 0), -11);
        c.due("29 it is missing, too", x.cell(3, 0, 0), -11);
        c.due("29 missing again", x.sheet(2, -1, 0), 1);
        x.thing(1, 0);
        x.thing(2, 0);
        Check.row(x, 0, 0, 1, 1);
        x.sheet(0, 0, 1);
        c.due("29 all 0", x.errand(0, 0), 5);
        c.due("29 as long as told", x.sheet(0, 0, 2), 1);
        c.due("29 both 0", x.errand(0, 0), -100000);
    }

    private static void cell() {
        KeepOurPlace x = new KeepOurPlace();
        c.due("30 sheet below", x.cell(-1, 0, 0), -2);
        c.due("30 sheet above", x.cell(4, 0, 0), -2);
        c.due("30 missing", x.cell(0, -1, 0), -11);
        x.sheet(0, 0, 2);
        c.due("30 place below", x.cell(0, -1, 0), -12);
        c.due("30 place above", x.cell(0, 2, 0), -12);
        x.customer(1, 0);
        x.customer(4, 0);
        // what a customer of no items has for his own tells how a number stands in its row
        int[][] rows = {
            {0, 256 + 45, 45}, {0, 200, -56}, {0, -211, 45}, {1, 45 - 65536, 45}, {1, 301, 301}, {1, 65491, -45},
            {2, 65581, 65581}, {2, 45, 45}, {0, 127, 127}, {0, 128, -128}, {1, 32768, -32768},
        };
        for (int[] r : rows) {
            x.sheet(0, r[0], 1);
            c.due("30 becomes " + r[1], x.cell(0, 0, r[1]), 1);
            x.set(2, 0, 9);
            c.due("30 of sort " + r[0] + " " + r[1], x.served(0, -1), r[2] == 45 ? -1 : 0);
        }
        Check.row(x, 1, 0, 200, 200);
        c.due("30 a byte has a sign", x.served(1, 1), 0b111111);
        KeepOurPlace y = new KeepOurPlace();
        y.thing(99, 0);
        Check.row(y, 0, 0, 0, 90);
        c.due("30 a byte of 90 is 90", y.slip(0, 0), 1);
        Check.rule(y, "takes 0; lets 0; walks 6;");
        Check.row(y, 0, 0, 0, 216);
        c.due("30 a byte of 216 is -40", y.slip(0, 0), 0);
        Check.row(y, 0, 1, 0, 216);
        c.due("30 a short of 216 is 216", y.slip(0, 0), 1);
    }

    private static void copy() {
        KeepOurPlace x = new KeepOurPlace();
        for (int i = 0; i < 6; i++) x.thing(i, 0);
        Check.row(x, 0, 0, 0, 1, 2, 3);
        Check.row(x, 1, 0, 5, 5, 5);
        Check.row(x, 2, 1, 0, 1, 2, 3);
        c.due("31 two", x.copy(0, 1, 1, 1, 2), 2);
        // on one row: 5, 1, 2: by TEXT 0 5 * 2 + 4 * 3 + 1 * 4 + 2 * 5
        c.due("31 they came", x.errand(1, 0), 36);
        c.due("31 they stay", x.errand(0, 0), 0 + 3 + 4 + 5 + 3 * 6);
        c.due("31 onto itself", x.copy(0, 0, 0, 1, 3), 3);
        x.cell(0, 0, 4);
        c.due("31 as they were", x.errand(0, 0), 4 * 2 + 4 * 3 + 4 + 5 + 2 * 6);
        c.due("31 none at the end", x.copy(0, 4, 1, 3, 0), 0);
        c.due("31 all", x.copy(1, 0, 0, 1, 3), 3);
        int[][] outside = {
            {-1, 0, 1}, {0, -1, 1}, {0, 0, -1}, {0, 0, 4}, {2, 0, 3}, {0, 1, 3}, {5, 0, 0}, {0, 4, 0},
            {Integer.MAX_VALUE, 0, 1}, {0, Integer.MAX_VALUE, Integer.MAX_VALUE}, {1, 1, Integer.MAX_VALUE},
        };
        for (int[] o : outside) c.due("31 outside", x.copy(0, o[0], 1, o[1], o[2]), -12);
        c.due("31 unlike", x.copy(0, 0, 2, 0, 1), -13);
        c.due("31 unlike ahead of outside", x.copy(2, 0, 0, 0, -1), -13);
        c.due("31 missing", x.copy(3, 0, 0, 0, 1), -11);
        c.due("31 the other is missing", x.copy(0, -1, 3, 0, 1), -11);
        c.due("31 sheet below", x.copy(-1, 0, 3, 0, 1), -2);
        c.due("31 sheet above", x.copy(4, 0, 0, 0, 1), -2);
        c.due("31 other below", x.copy(3, 0, -1, 0, 1), -2);
        c.due("31 other above", x.copy(0, 0, 4, 0, 1), -2);
    }

    private static void customers() {
        KeepOurPlace x = new KeepOurPlace();
        Check.row(x, 0, 1, 9, 0, 409, 6, 0, 5, 410, 4, 58, 3);
        c.due("32 from the second on", x.customers(0, 1, 1, 4), 2);
        c.due("32 two", x.count(0), 2);
        c.due("32 items", x.told(0, 1), 40);
        c.due("32 kind", x.told(1, 0), 4);
        c.due("32 number", x.told(1, 2), 8);
        c.due("32 none", x.customers(0, 1, 99, 0), 0);
        c.due("32 outside", x.customers(0, 1, 7, 3), -12);
        c.due("32 what stood ahead came", x.count(0), 3);
        c.due("32 half of one is outside", x.customers(0, 1, 9, 1), -12);
        c.due("32 below", x.customers(0, 1, -1, 1), -12);
        c.due("32 far below", x.customers(0, 1, Integer.MIN_VALUE, 8), -12);
        c.due("32 far above", x.customers(0, 1, Integer.MAX_VALUE, 8), -12);
        c.due("32 still three", x.count(0), 3);
        c.due("32 sheet below", x.customers(-1, 0, 0, 0), -2);
        c.due("32 sheet above", x.customers(4, 0, 0, 0), -2);
        c.due("32 sort below", x.customers(0, -1, 0, 0), -2);
        c.due("32 sort above", x.customers(0, 3, 0, 0), -2);
        c.due("32 n below", x.customers(0, 1, 0, -1), -2);
        c.due("32 n above", x.customers(0, 1, 0, 9), -2);
        c.due("32 unlike", x.customers(0, 0, 0, 0), -13);
        c.due("32 unlike ahead of outside", x.customers(0, 2, -1, 1), -13);
        c.due("32 missing", x.customers(1, 0, 0, 0), -11);
        x.sheet(1, 2, 16);
        c.due("32 as many as have room", x.customers(1, 2, 0, 8), 5);
        c.due("32 eight", x.count(0), 8);
        c.due("32 none has room", x.customers(1, 2, 0, 8), 0);
        c.due("32 the full line still reads", x.customers(1, 2, 2, 8), -12);
    }

    private static void taken() {
        KeepOurPlace x = new KeepOurPlace();
        String[] over = {"0", "01", "02", "013", "024", "05"};
        for (int kind = 0; kind < 6; kind++) x.customer(kind, kind + 3);
        for (int who = 0; who < 6; who++) {
            for (int k = 0; k < 6; k++) {
                int due = over[who].contains(String.valueOf(k)) ? who + 3 : -13;
                c.due("33 kind " + who + " for " + k, x.taken(who, k), due);
            }
        }
        c.due("33 k below", x.taken(0, -1), -2);
        c.due("33 k above", x.taken(0, 6), -2);
        c.due("33 k ahead of all", x.taken(9, 6), -2);
        c.due("33 none such", x.taken(6, 5), -11);
        c.due("33 none such below", x.taken(-1, 0), -11);
    }
}
