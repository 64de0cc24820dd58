import java.util.ArrayList;
import java.util.Arrays;
import java.util.List;
import java.util.function.Supplier;
import java.util.function.ToLongFunction;

/**
 * Refusals change nothing, and neither does a call that only asks. Two objects come to stand
 * alike; one of them is called, and then both must answer all the same: a portrait of some 300
 * answers tells all that they hold, and leaves nothing of it as it was.
 */
public final class RefusalsTest {
    private static final int MIN = Check.MIN, MAX = Check.MAX, BAD = -2, STATE = -3, FULL = -4, NOT = -100000;
    private static final Check c = new Check();

    public static void main(String[] args) {
        portraitTellsAll();
        lineRefuses();
        fullRefuses();
        textsRefuse();
        errandsRefuse();
        slipsRefuse();
        hostRefuses();
        nothingToServe();
        askingChangesNothing();
        c.end();
    }

    // ---- objects that stand alike

    /** Seven customers, five things, a text that rules, a tape, an image that isn't as all stands, three sheets. */
    private static KeepOurPlace rich() {
        KeepOurPlace x = new KeepOurPlace();
        for (int i = 0; i < 8; i++) x.customer(i % 6, 47 * i + 23);
        x.serve();
        for (int i = 0; i < 5; i++) x.thing((37 * i + 12) % 100, 9011 * (i + 1) % 99100);
        x.set(0, 0, 3);
        Check.rule(x, "takes 2+place;lets 9+wait;walks 1+items;");
        x.image();
        x.force(0);
        for (int what = 0; what < 6; what++) x.set(what, 2, 4);
        Check.feed(x, "takes 7;lets");
        Check.row(x, 0, 0, 1, 17, 3, 125, 0, 99);
        Check.row(x, 1, 1, 4, 409, 2, 307);
        Check.row(x, 2, 2, 0, 1);
        return x;
    }

    /** No room for a customer or a thing. */
    private static KeepOurPlace fullLine() {
        KeepOurPlace x = rich();
        x.customer(3, 129);
        x.thing(88, 88088);
        return x;
    }

    private static KeepOurPlace fullTape() {
        KeepOurPlace x = rich();
        for (int n = x.count(4); n < 160; n++) x.feed(')');
        return x;
    }

    /** No room for a text more, though the tape has some of one. */
    private static KeepOurPlace fullTexts() {
        KeepOurPlace x = rich();
        x.text();
        for (int n = x.count(3); n < 6; n++) Check.text(x, "takes2;lets1;walks1;");
        Check.feed(x, "takes");
        return x;
    }

    /** What an object answers, all that it holds; it is used up by that. */
    private static long[] portrait(KeepOurPlace x) {
        List<Long> all = new ArrayList<>();
        tellCounts(x, all);
        tellAnswers(x, all);
        tellSheets(x, all);
        Check.feed(x, " 8;walks 9;");
        all.add((long) x.text());
        all.add((long) x.force(x.count(3) - 1));
        for (int i = 0; i < 8; i++) for (int what = 6; what < 8; what++) all.add((long) x.told(i, what));
        all.add((long) x.back());
        tellCounts(x, all);
        tellNumbersOnSheets(x, all);
        return all.stream().mapToLong(Long::longValue).toArray();
    }

    private static void tellCounts(KeepOurPlace x, List<Long> all) {
        for (int what = 0; what < 7; what++) all.add((long) x.count(what));
        for (int i = 0; i < 8; i++) for (int what = 0; what < 3; what++) all.add((long) x.told(i, what));
        for (int i = 0; i < 6; i++) for (int what = 3; what < 6; what++) all.add((long) x.told(i, what));
    }

    private static void tellAnswers(KeepOurPlace x, List<Long> all) {
        all.add((long) x.turn());
        for (int what = 0; what < 4; what++) all.add((long) x.best(what));
        all.add((long) x.nearest(0));
        all.add((long) x.stand(1));
        all.add((long) x.change(0));
        all.add((long) x.errand(2, 0));
        all.add((long) x.slip(2, 1));
    }

    /** Which are missing, of which sort and how long the others are. */
    private static void tellSheets(KeepOurPlace x, List<Long> all) {
        for (int s = 0; s < 4; s++) {
            for (int other = s; other < 4; other++) all.add((long) x.copy(s, 0, other, 0, 0));
            for (int n = 1; n < 8; n++) all.add((long) x.copy(s, n, s, 0, 0));
        }
    }

    private static void tellNumbersOnSheets(KeepOurPlace x, List<Long> all) {
        for (int s = 0; s < 3; s++) {
            for (int i = 0; i < 8; i++) x.serve();
            all.add((long) x.customers(s, s, 0, 3));
            for (int i = 0; i < 3; i++) for (int what = 0; what < 3; what++) all.add((long) x.told(i, what));
        }
    }

    private static void portraitTellsAll() {
        c.says("a portrait tells whatever was changed");
        long[] plain = portrait(rich());
        List<ToLongFunction<KeepOurPlace>> changes = List.of(
            x -> x.customer(1, 0), x -> x.thing(1, 0), x -> x.set(0, 0, 2), x -> x.set(1, 6, 1), x -> x.set(2, 6, 9),
            x -> x.set(3, 4, 1), x -> x.set(4, 4, 1), x -> x.set(5, 4, 1), KeepOurPlace::serve, x -> x.feed(32),
            KeepOurPlace::text, x -> x.force(1), x -> x.film(0, 3), KeepOurPlace::image, KeepOurPlace::back,
            x -> x.sheet(3, 1, 1), x -> x.sheet(0, 0, 6), x -> x.cell(0, 5, 98), x -> x.cell(1, 3, 306),
            x -> x.cell(2, 1, 2), x -> x.copy(0, 0, 0, 1, 1), x -> x.customers(1, 1, 0, 1));
        for (int i = 0; i < changes.size(); i++) {
            KeepOurPlace x = rich();
            c.holds("change " + i + " is one", changes.get(i).applyAsLong(x) >= 0 || i == 10);
            c.holds("change " + i + " is seen", !Arrays.equals(plain, portrait(x)));
        }
        c.holds("nothing was changed", Arrays.equals(plain, portrait(rich())));
    }

    // ---- the refusals

    private static void refusesOf(Supplier<KeepOurPlace> made, String call, long due, ToLongFunction<KeepOurPlace> f) {
        KeepOurPlace x = made.get();
        c.due(call, f.applyAsLong(x), due);
        c.holds(call + " changes nothing", Arrays.equals(portrait(made.get()), portrait(x)));
    }

    private static void refuses(String call, long due, ToLongFunction<KeepOurPlace> f) {
        refusesOf(RefusalsTest::rich, call, due, f);
    }

    private static void lineRefuses() {
        c.says("2 .. 5 Refusals change nothing");
        for (int bad : new int[] {-1, 6}) refuses("customer(" + bad + ", 0)", BAD, x -> x.customer(bad, 0));
        for (int bad : new int[] {-1, 410}) refuses("customer(0, " + bad + ")", BAD, x -> x.customer(0, bad));
        for (int bad : new int[] {-1, 100}) refuses("thing(" + bad + ", 0)", BAD, x -> x.thing(bad, 0));
        for (int bad : new int[] {-1, 101, 100000}) refuses("thing(0, " + bad + ")", BAD, x -> x.thing(0, bad));
        int[] above = {8, 41, 10, 100, 100, 101};
        for (int k = 0; k < 6; k++) {
            int what = k;
            for (int bad : new int[] {-1, above[k]}) {
                refuses("set(" + k + ", 1, " + bad + ")", BAD, x -> x.set(what, 1, bad));
            }
            for (int of : new int[] {-1, 7}) {
                if (k > 0) refuses("set(" + k + ", " + of + ", 1)", BAD, x -> x.set(what, of, 1));
            }
        }
        for (int bad : new int[] {-1, 6}) refuses("set(" + bad + ", 0, 0)", BAD, x -> x.set(bad, 0, 0));
        refuses("told(7, 0)", BAD, x -> x.told(7, 0));
        refuses("told(5, 3)", BAD, x -> x.told(5, 3));
        refuses("told(0, 8)", BAD, x -> x.told(0, 8));
    }

    private static void fullRefuses() {
        c.says("2, 3, 32 FULL changes nothing");
        Supplier<KeepOurPlace> line = RefusalsTest::fullLine;
        refusesOf(line, "customer(0, 0)", FULL, x -> x.customer(0, 0));
        refusesOf(line, "customer(6, 0)", BAD, x -> x.customer(6, 0));
        refusesOf(line, "thing(0, 0)", FULL, x -> x.thing(0, 0));
        refusesOf(line, "thing(0, 101)", BAD, x -> x.thing(0, 101));
        refusesOf(line, "customers(0, 0, 0, 3)", 0, x -> x.customers(0, 0, 0, 3));
        refusesOf(line, "customers(0, 0, 2, 3)", -12, x -> x.customers(0, 0, 2, 3));
        c.says("7 FULL changes nothing");
        refusesOf(RefusalsTest::fullTape, "feed(32)", FULL, x -> x.feed(32));
        refusesOf(RefusalsTest::fullTape, "feed(256)", BAD, x -> x.feed(256));
        c.says("8 FULL changes nothing");
        refusesOf(RefusalsTest::fullTexts, "text()", FULL, KeepOurPlace::text);
    }

    private static void textsRefuse() {
        c.says("7 .. 9 Refusals change nothing");
        for (int bad : new int[] {-1, 256}) refuses("feed(" + bad + ")", BAD, x -> x.feed(bad));
        for (int bad : new int[] {-1, 2}) refuses("force(" + bad + ")", BAD, x -> x.force(bad));
    }

    private static void errandsRefuse() {
        c.says("11 .. 20 Refusals change nothing");
        for (int bad : new int[] {-1, 3, 4}) refuses("errand(" + bad + ", 0)", NOT, x -> x.errand(bad, 0));
        refuses("errand(0, 0)", NOT, x -> x.errand(0, 0));
        for (int bad : new int[] {-1, 4}) refuses("errand(2, " + bad + ")", NOT, x -> x.errand(2, bad));
        for (int bad : new int[] {-1, 3}) refuses("nearest(" + bad + ")", NOT, x -> x.nearest(bad));
        for (int bad : new int[] {-1, 4}) refuses("best(" + bad + ")", NOT, x -> x.best(bad));
        for (int bad : new int[] {-1, 5}) refuses("latest(" + bad + ", 0)", BAD, x -> x.latest(bad, 0));
        for (int bad : new int[] {-1, 7}) refuses("latest(0, " + bad + ")", BAD, x -> x.latest(0, bad));
        for (int bad : new int[] {-1, 5}) refuses("more(" + bad + ")", NOT, x -> x.more(bad));
        for (int bad : new int[] {-1, 2}) refuses("stand(" + bad + ")", NOT, x -> x.stand(bad));
        for (int bad : new int[] {-1, 2}) refuses("change(" + bad + ")", BAD, x -> x.change(bad));
        for (int bad : new int[] {-1, 3}) refuses("lines(" + bad + ")", BAD, x -> x.lines(bad));
        for (int bad : new int[] {-1, 0, 3, 4}) refuses("likely(" + bad + ")", KeepOurPlace.NO, x -> x.likely(bad));
    }

    private static void slipsRefuse() {
        c.says("21 .. 28 Refusals change nothing");
        for (int bad : new int[] {-1, 0, 4}) refuses("slip(" + bad + ", 0)", BAD, x -> x.slip(bad, 0));
        for (int bad : new int[] {-1, 2}) refuses("slip(2, " + bad + ")", BAD, x -> x.slip(2, bad));
        refuses("slip(3, 0)", -11, x -> x.slip(3, 0));
        for (int bad : new int[] {-1, 4}) refuses("served(" + bad + ", 0)", BAD, x -> x.served(bad, 0));
        for (int bad : new int[] {-2, 6}) refuses("served(0, " + bad + ")", BAD, x -> x.served(0, bad));
        refuses("served(3, -1)", -11, x -> x.served(3, -1));
        for (int bad : new int[] {-1, 4}) refuses("film(" + bad + ", 1)", BAD, x -> x.film(bad, 1));
        for (int bad : new int[] {-1, 8}) refuses("film(0, " + bad + ")", BAD, x -> x.film(0, bad));
        for (int bad : new int[] {0, 21}) refuses("chance(1, " + bad + ", 0)", KeepOurPlace.NO, x -> x.chance(1, bad, 0));
        for (int bad : new int[] {-1, 2}) refuses("chance(1, 1, " + bad + ")", KeepOurPlace.NO, x -> x.chance(1, 1, bad));
        for (int bad : new int[] {-1, 7}) refuses("count(" + bad + ")", BAD, x -> x.count(bad));
    }

    private static void hostRefuses() {
        c.says("29 .. 33 Refusals change nothing");
        for (int bad : new int[] {-1, 4}) refuses("sheet(" + bad + ", 0, 1)", BAD, x -> x.sheet(bad, 0, 1));
        for (int bad : new int[] {-2, 3}) refuses("sheet(0, " + bad + ", 1)", BAD, x -> x.sheet(0, bad, 1));
        refuses("sheet(0, 1, 41)", BAD, x -> x.sheet(0, 1, 41));
        refuses("sheet(0, 1, -1)", -14, x -> x.sheet(0, 1, -1));
        for (int bad : new int[] {-1, 4}) refuses("cell(" + bad + ", 0, 9)", BAD, x -> x.cell(bad, 0, 9));
        refuses("cell(3, 0, 9)", -11, x -> x.cell(3, 0, 9));
        for (int bad : new int[] {-1, 2, MIN, MAX}) refuses("cell(2, " + bad + ", 9)", -12, x -> x.cell(2, bad, 9));
        for (int bad : new int[] {-1, 4}) {
            refuses("copy(" + bad + ", 0, 0, 0, 1)", BAD, x -> x.copy(bad, 0, 0, 0, 1));
            refuses("copy(0, 0, " + bad + ", 0, 1)", BAD, x -> x.copy(0, 0, bad, 0, 1));
        }
        refuses("copy(3, 0, 0, 0, 1)", -11, x -> x.copy(3, 0, 0, 0, 1));
        refuses("copy(0, 0, 3, 0, 1)", -11, x -> x.copy(0, 0, 3, 0, 1));
        refuses("copy(0, 0, 1, 0, 1)", -13, x -> x.copy(0, 0, 1, 0, 1));
        refuses("copy(0, 1, 0, 0, 6)", -12, x -> x.copy(0, 1, 0, 0, 6));
        refuses("copy(0, 0, 0, 1, 6)", -12, x -> x.copy(0, 0, 0, 1, 6));
        refuses("copy(0, 0, 0, 1, -1)", -12, x -> x.copy(0, 0, 0, 1, -1));
        for (int bad : new int[] {-1, 4}) refuses("customers(" + bad + ", 0, 0, 1)", BAD, x -> x.customers(bad, 0, 0, 1));
        for (int bad : new int[] {-1, 3}) refuses("customers(0, " + bad + ", 0, 1)", BAD, x -> x.customers(0, bad, 0, 1));
        for (int bad : new int[] {-1, 9}) refuses("customers(0, 0, 0, " + bad + ")", BAD, x -> x.customers(0, 0, 0, bad));
        refuses("customers(0, 1, 0, 1)", -13, x -> x.customers(0, 1, 0, 1));
        refuses("customers(3, 0, 0, 1)", -11, x -> x.customers(3, 0, 0, 1));
        for (int bad : new int[] {-1, 5, 6}) refuses("customers(0, 0, " + bad + ", 1)", -12, x -> x.customers(0, 0, bad, 1));
        for (int bad : new int[] {-1, 6}) refuses("taken(0, " + bad + ")", BAD, x -> x.taken(0, bad));
        for (int bad : new int[] {-1, 7}) refuses("taken(" + bad + ", 0)", -11, x -> x.taken(bad, 0));
        refuses("taken(0, 5)", -13, x -> x.taken(0, 5));
    }

    private static KeepOurPlace nobodyLeft() {
        KeepOurPlace x = rich();
        for (int i = 0; i < 7; i++) x.serve();
        return x;
    }

    private static void nothingToServe() {
        c.says("6, 27 STATE changes nothing");
        refusesOf(RefusalsTest::nobodyLeft, "serve()", STATE, KeepOurPlace::serve);
        refusesOf(RefusalsTest::nobodyLeft, "back()", STATE, KeepOurPlace::back);
        refusesOf(Check::twoThings, "back() to nothing", STATE, KeepOurPlace::back);
    }

    // ---- calls that only ask

    private static void asks(String call, ToLongFunction<KeepOurPlace> f) {
        KeepOurPlace x = rich();
        long first = f.applyAsLong(x);
        c.due(call + " again", f.applyAsLong(x), first);
        c.holds(call + " changes nothing", Arrays.equals(portrait(rich()), portrait(x)));
    }

    private static void askingChangesNothing() {
        c.says("5, 10 .. 22, 24, 25, 28, 33 a call that only asks changes nothing, and answers the same again");
        for (int k = 0; k < 8; k++) {
            int what = k;
            asks("told(1, " + k + ")", x -> x.told(1, what));
            if (k < 7) asks("count(" + k + ")", x -> x.count(what));
            if (k < 6) asks("taken(1, " + k + ")", x -> x.taken(1, what));
            if (k < 5) asks("more(" + k + ")", x -> x.more(what));
            if (k < 7) asks("latest(1, " + k + ")", x -> x.latest(1, what));
            if (k < 4) asks("errand(2, " + k + ")", x -> x.errand(2, what));
            if (k < 4) asks("best(" + k + ")", x -> x.best(what));
            if (k < 3) asks("nearest(" + k + ")", x -> x.nearest(what));
            if (k < 3) asks("lines(" + k + ")", x -> x.lines(what));
            if (k < 2) asks("stand(" + k + ")", x -> x.stand(what));
            if (k < 2) asks("change(" + k + ")", x -> x.change(what));
            if (k < 2) asks("slip(2, " + k + ")", x -> x.slip(2, what));
            if (k < 2) asks("chance(7, 20, " + k + ")", x -> x.chance(7, 20, what));
            if (k < 3) asks("served(2, " + (k - 1) + ")", x -> x.served(2, what - 1));
            asks("drawn(" + k + ")", x -> x.drawn(what));
        }
        asks("turn()", KeepOurPlace::turn);
        asks("leave()", KeepOurPlace::leave);
        asks("likely(2)", x -> x.likely(2));
    }
}
