import java.util.Random;

/**
 * Long runs of drawn calls on the class and on the Model, told apart where they differ.
 * A second word on the command line tells how many runs.
 */
public final class ModelTest {
    // Of an object's 512 calls the last seven tell its counts.
    private static final int RUNS = 120, CALLS = 505, TEXTS = 20000;
    private static final int[] WILD = {
        -1, -2, 7, 8, 9, 10, 40, 41, 100, 101, 409, 410, 99100, 99101, 255, 256, 1000,
        Integer.MAX_VALUE, Integer.MIN_VALUE, Integer.MAX_VALUE - 1,
    };

    private final Check c = new Check();
    private Random r;
    private String label;

    public static void main(String[] args) {
        ModelTest t = new ModelTest();
        int runs = args.length > 1 ? Integer.parseInt(args[1]) : RUNS;
        for (int i = 0; i < runs; i++) t.run(i);
        for (int i = 0; i < TEXTS; i++) t.text(i);
        t.c.end();
    }

    private int below(int n) {
        return r.nextInt(n);
    }

    /** Mostly 0 .. n - 1, at times one off, seldom wild. */
    private int pick(int n) {
        int d = below(40);
        if (d == 0) return WILD[below(WILD.length)];
        if (d == 1) return n;
        if (d == 2) return -1;
        return n <= 0 ? 0 : below(n);
    }

    private void same(String call, long got, long want) {
        c.due(label + call, got, want);
    }

    // ---- texts alone

    private void text(int seed) {
        r = new Random(seed * 31L + 7);
        label = "text " + seed + ": ";
        KeepOurPlace x = new KeepOurPlace();
        Model m = new Model();
        String s = source();
        for (int i = 0; i < s.length(); i++) same("feed", x.feed(s.charAt(i)), m.feed(s.charAt(i)));
        same("text " + s, x.text(), m.text());
        same("force", x.force(1), m.force(1));
        for (int i = 0; i < 4; i++) {
            int kind = below(6), what = below(410);
            same("customer", x.customer(kind, what), m.customer(kind, what));
        }
        same("place", x.set(0, 0, 2), m.set(0, 0, 2));
        same("thing", x.thing(34, 50050), m.thing(34, 50050));
        same("thing", x.thing(5, 40050), m.thing(5, 40050));
        for (int i = 0; i < 4; i++) for (int k = 6; k < 8; k++) same("told " + s, x.told(i, k), m.told(i, k));
        for (int k = 0; k < 4; k++) same("best " + s, x.best(k), m.best(k));
    }

    /** A sound text, or one with a slip in it. */
    private String source() {
        StringBuilder s = new StringBuilder();
        for (String key : new String[] {"takes", "lets", "walks"}) {
            s.append(key);
            expression(s, below(4) == 0 ? 6 : 3);
            s.append(below(2) == 0 ? ";" : " ; ");
        }
        int slips = below(3);
        for (int i = 0; i < slips; i++) {
            int at = below(s.length());
            int how = below(4);
            if (how == 0) s.deleteCharAt(at);
            else if (how == 1) s.setLength(at);
            else if (how == 2) s.insert(at, "();+-*<= \n!9aZ\u00e9".charAt(below(15)));
            else s.insert(at, new String[] {" not ", " or ", "(", "-", " items ", "12345", " takes "}[below(7)]);
            if (s.length() == 0) s.append(' ');
        }
        return s.substring(0, Math.min(160, s.length()));
    }

    private void expression(StringBuilder s, int depth) {
        String[] names = {"items", "number", "place", "ours", "wait", "many"};
        String[] signs = {" + ", "-", "*", " < ", "=", " or ", " and "};
        if (s.length() > 120) depth = 0;
        int how = depth <= 0 ? below(2) : below(7);
        if (how == 0) {
            s.append(' ').append(below(8) == 0 ? below(10000) : below(12));
        } else if (how == 1) {
            s.append(' ').append(names[below(6)]);
        } else if (how == 2) {
            s.append(below(2) == 0 ? "(" : " (");
            expression(s, depth - 1);
            s.append(')');
        } else if (how == 3) {
            s.append(below(2) == 0 ? " -" : " not ");
            expression(s, depth - 1);
        } else {
            expression(s, depth - 1);
            s.append(signs[below(7)]);
            expression(s, depth - 1);
        }
    }

    // ---- runs

    private void run(int seed) {
        r = new Random(seed);
        KeepOurPlace x = new KeepOurPlace();
        Model m = new Model();
        label = "run " + seed + ": ";
        int style = below(4);
        int things = style == 0 ? 6 : below(6);
        int people = style == 1 ? 8 : below(9);
        int calls = 0;
        for (int i = 0; i < people; i++, calls++) {
            int kind = below(6), what = style == 2 ? below(100) : below(410);
            same("customer", x.customer(kind, what), m.customer(kind, what));
        }
        for (int i = 0; i < things; i++, calls++) {
            int shelf = style == 3 ? below(3) * 10 + below(3) : below(100);
            int what = (below(3) == 0 ? below(4) : below(100)) * 1000 + below(101);
            same("thing", x.thing(shelf, what), m.thing(shelf, what));
        }
        int place = below(people + 1);
        same("place", x.set(0, 0, place), m.set(0, 0, place));
        calls++;
        while (calls < CALLS) {
            label = "run " + seed + ", call " + calls + ": ";
            calls += step(x, m, below(36), CALLS - calls);
        }
        label = "run " + seed + " in the end: ";
        for (int i = 0; i < 7; i++) same("count " + i, x.count(i), m.count(i));
    }

    private int step(KeepOurPlace x, Model m, int which, int room) {
        int a, b, d, e, f;
        switch (which) {
            case 0: a = pick(6); b = pick(410);
                same("customer " + a + " " + b, x.customer(a, b), m.customer(a, b)); return 1;
            case 1: a = pick(100); b = pick(100) * 1000 + pick(101);
                same("thing " + a + " " + b, x.thing(a, b), m.thing(a, b)); return 1;
            case 2: case 3: a = pick(6); b = pick(a < 3 ? m.people.size() : m.things.size());
                d = pick(a == 0 ? m.people.size() + 1 : new int[] {1, 41, 10, 100, 100, 101}[a < 0 || a > 5 ? 0 : a]);
                same("set " + a + " " + b + " " + d, x.set(a, b, d), m.set(a, b, d)); return 1;
            case 4: a = pick(8); b = pick(8); same("told " + a + " " + b, x.told(a, b), m.told(a, b)); return 1;
            case 5: if (below(4) > 0) return 0;
                same("serve", x.serve(), m.serve()); return 1;
            case 6: a = pick(256); same("feed " + a, x.feed(a), m.feed(a)); return 1;
            case 7: same("text", x.text(), m.text()); return 1;
            case 8: return feedText(x, m, room);
            case 9: a = pick(m.texts.size()); same("force " + a, x.force(a), m.force(a)); return 1;
            case 10: same("turn", x.turn(), m.turn()); return 1;
            case 11: case 12: a = pick(4); b = pick(4);
                same("errand " + a + " " + b, x.errand(a, b), m.errand(a, b)); return 1;
            case 13: a = pick(3); same("nearest " + a, x.nearest(a), m.nearest(a)); return 1;
            case 14: a = pick(4); same("best " + a, x.best(a), m.best(a)); return 1;
            case 15: a = pick(m.things.size()); b = pick(7);
                same("latest " + a + " " + b, x.latest(a, b), m.latest(a, b)); return 1;
            case 16: same("leave", x.leave(), m.leave()); return 1;
            case 17: a = pick(m.things.size()); same("more " + a, x.more(a), m.more(a)); return 1;
            case 18: a = pick(2); same("stand " + a, x.stand(a), m.stand(a)); return 1;
            case 19: a = pick(2); same("change " + a, x.change(a), m.change(a)); return 1;
            case 20: a = pick(3); same("lines " + a, x.lines(a), m.lines(a)); return 1;
            case 21: a = pick(4); same("likely " + a, x.likely(a), m.likely(a)); return 1;
            case 22: a = pick(4); b = pick(2); same("slip " + a + " " + b, x.slip(a, b), m.slip(a, b)); return 1;
            case 23: a = pick(4); b = pick(m.people.size()) - below(2);
                same("served " + a + " " + b, x.served(a, b), m.served(a, b)); return 1;
            case 24: a = pick(4); b = pick(m.people.size() + 1);
                same("film " + a + " " + b, x.film(a, b), m.film(a, b)); return 1;
            case 25: a = r.nextInt(); same("drawn " + a, x.drawn(a), m.drawn(a)); return 1;
            case 26: a = below(5) == 0 ? Integer.MAX_VALUE - below(4) : r.nextInt(); b = pick(20) + 1; d = pick(2);
                same("chance " + a + " " + b + " " + d, x.chance(a, b, d), m.chance(a, b, d)); return 1;
            case 27: if (below(2) == 0) same("image", x.image(), m.image()); else same("back", x.back(), m.back());
                return 1;
            case 28: a = pick(7); same("count " + a, x.count(a), m.count(a)); return 1;
            case 29: a = pick(4); b = pick(4) - 1; d = pick(below(2) == 0 ? 41 : 9);
                same("sheet " + a + " " + b + " " + d, x.sheet(a, b, d), m.sheet(a, b, d)); return 1;
            case 30: case 31: a = pick(4); b = pick(below(2) == 0 ? 5 : 40);
                d = below(3) == 0 ? r.nextInt() : pick(below(2) == 0 ? 410 : 6);
                same("cell " + a + " " + b + " " + d, x.cell(a, b, d), m.cell(a, b, d)); return 1;
            case 32: a = pick(4); b = pick(6); d = pick(4); e = pick(6); f = pick(6);
                same("copy " + a + " " + b + " " + d + " " + e + " " + f, x.copy(a, b, d, e, f), m.copy(a, b, d, e, f));
                return 1;
            case 33: a = pick(4); b = pick(3); d = pick(10); e = pick(9);
                same("customers " + a + " " + b + " " + d + " " + e, x.customers(a, b, d, e), m.customers(a, b, d, e));
                return 1;
            case 34: a = pick(8); b = pick(6); same("taken " + a + " " + b, x.taken(a, b), m.taken(a, b)); return 1;
            default: return below(2) == 0 ? errandSheet(x, m, room) : throughSheet(x, m, room);
        }
    }

    private int feedText(KeepOurPlace x, Model m, int room) {
        if (m.tape.length() > 0 || room < 170) return 0;
        String s = source();
        for (int i = 0; i < s.length(); i++) same("feed", x.feed(s.charAt(i)), m.feed(s.charAt(i)));
        same("text " + s, x.text(), m.text());
        return s.length() + 1;
    }

    /** A sheet that tells an errand; at times with its BACK behind it, as a slip does. */
    private int errandSheet(KeepOurPlace x, Model m, int room) {
        if (room < 30 || m.things.isEmpty()) return 0;
        int sheet = below(4), n = below(m.things.size() + 1);
        java.util.List<Integer> order = m.everything();
        java.util.Collections.shuffle(order, r);
        order = order.subList(0, n);
        int back = m.backOf(order);
        boolean slip = below(2) == 0;
        if (slip && below(2) == 0) java.util.Collections.shuffle(order, r);
        same("sheet", x.sheet(sheet, 2, slip ? n + 1 : n), m.sheet(sheet, 2, slip ? n + 1 : n));
        for (int i = 0; i < n; i++) same("cell", x.cell(sheet, i, order.get(i)), m.cell(sheet, i, order.get(i)));
        if (slip) same("cell", x.cell(sheet, n, back), m.cell(sheet, n, back));
        for (int i = 0; i < 4; i++) same("errand " + i + order, x.errand(sheet, i), m.errand(sheet, i));
        same("likely", x.likely(sheet), m.likely(sheet));
        for (int i = 0; i < 2; i++) same("slip " + i, x.slip(sheet, i), m.slip(sheet, i));
        return n + 9;
    }

    /** A film with a slip in it, read back. */
    private int throughSheet(KeepOurPlace x, Model m, int room) {
        if (room < 30 || m.people.isEmpty()) return 0;
        int sheet = below(4), n = 1 + below(m.people.size());
        same("film", x.film(sheet, n), m.film(sheet, n));
        if (below(2) == 0) {
            int i = below(n), v = below(200);
            same("cell", x.cell(sheet, i, v), m.cell(sheet, i, v));
        }
        for (int who = -1; who < n; who++) same("served " + who, x.served(sheet, who), m.served(sheet, who));
        return n + 3;
    }
}
