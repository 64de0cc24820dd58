import java.util.function.IntToLongFunction;

/** Counts and prints the answers that aren't as due; shared by the project's tests. */
final class Check {
    static final int MIN = Integer.MIN_VALUE, MAX = Integer.MAX_VALUE;

    private String words = "";
    private int wrong = 0;
    private int asked = 0;

    /** The number of the promise and the document's words that all that is asked next is about. */
    void says(String promiseAndWords) {
        words = promiseAndWords + " | ";
    }

    void due(String what, long got, long want) {
        asked++;
        if (got != want) {
            wrong++;
            System.out.println(words + what + ": answered " + got + ", due is " + want);
        }
    }

    void holds(String what, boolean so) {
        due(what, so ? 1 : 0, 1);
    }

    /** The same answer is due of a call at each of these numbers. */
    void each(String call, IntToLongFunction f, long want, int... at) {
        for (int v : at) due(call + " at " + v, f.applyAsLong(v), want);
    }

    /** These answers are due of a call at 0, 1, .. */
    void inTurn(String call, IntToLongFunction f, long... want) {
        for (int i = 0; i < want.length; i++) due(call + " at " + i, f.applyAsLong(i), want[i]);
    }

    void end() {
        System.out.println(asked + " asked, " + wrong + " not as due");
        if (wrong != 0) System.exit(1);
    }

    /** Thing 0 is 3 steps off, thing 1 one step, 2 steps lie between; TURN is 0. */
    static KeepOurPlace twoThings() {
        KeepOurPlace x = new KeepOurPlace();
        x.thing(12, 50050);
        x.thing(1, 10100);
        return x;
    }

    /** Things at these shelves, of like worth, there for sure. */
    static KeepOurPlace shelves(int worth, int... shelves) {
        KeepOurPlace x = new KeepOurPlace();
        for (int shelf : shelves) x.thing(shelf, 1000 * worth + 100);
        return x;
    }

    /** A line of plain customers that have so many items each. */
    static void line(KeepOurPlace x, int... items) {
        for (int n : items) x.customer(0, 10 * n);
    }

    static void row(KeepOurPlace x, int sheet, int sort, int... numbers) {
        x.sheet(sheet, sort, numbers.length);
        for (int i = 0; i < numbers.length; i++) x.cell(sheet, i, numbers[i]);
    }

    static void feed(KeepOurPlace x, String bytes) {
        for (int i = 0; i < bytes.length(); i++) x.feed(bytes.charAt(i));
    }

    static int text(KeepOurPlace x, String text) {
        feed(x, text);
        return x.text();
    }

    /** Reads a text that must be sound and makes it the rule. */
    static void rule(KeepOurPlace x, String text) {
        int number = text(x, text);
        if (number < 0) throw new IllegalStateException(text + " answered " + number);
        x.force(number);
    }

    /** takes of a customer of 1 item, told by a line of 3 at our place 2; he is the second, his number 7. */
    static long takes(String e) {
        KeepOurPlace x = new KeepOurPlace();
        x.customer(0, 0);
        x.customer(0, 17);
        x.customer(0, 0);
        x.set(0, 0, 2);
        rule(x, "takes " + e + " ; lets 0 ; walks 0 ;");
        return x.told(1, 6);
    }
}
