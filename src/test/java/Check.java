/** Counts and prints the answers that aren't as due; shared by the project's tests. */
final class Check {
    private int wrong = 0;
    private int asked = 0;

    void due(String what, long got, long want) {
        asked++;
        if (got != want) {
            wrong++;
            System.out.println(what + ": answered " + got + ", due is " + want);
        }
    }

    void holds(String what, boolean so) {
        due(what, so ? 1 : 0, 1);
    }

    void end() {
        System.out.println(asked + " asked, " + wrong + " not as due");
        if (wrong != 0) System.exit(1);
    }

    /** Thing 0 is 3 steps off, thing 1 one step, 2 steps lie between; TURN is 0. */
    static KeepOurPlace twoThings() {
        KeepOurPlace x = new KeepOurPlace();
        x.thing(12, 50050);
        x.thing(1, 10100);
        return x;
    }

    static void row(KeepOurPlace x, int sheet, int sort, int... numbers) {
        x.sheet(sheet, sort, numbers.length);
        for (int i = 0; i < numbers.length; i++) x.cell(sheet, i, numbers[i]);
    }

    static int text(KeepOurPlace x, String text) {
        for (int i = 0; i < text.length(); i++) x.feed(text.charAt(i));
        return x.text();
    }

    /** Reads a text that must be sound and makes it the rule. */
    static void rule(KeepOurPlace x, String text) {
        int number = text(x, text);
        if (number < 0) throw new IllegalStateException(text + " answered " + number);
        x.force(number);
    }
}
