import java.util.ArrayList;
import java.util.Collections;
import java.util.Comparator;
import java.util.List;
import java.util.function.ToIntFunction;
import java.util.stream.Collectors;
import java.util.stream.IntStream;

/**
 * The document told a second time, as plainly as can be and with the whole Java library: every
 * errand is made and weighed anew for each call. ModelTest compares the class with it.
 */
final class Model {
    static final class Person {
        int kind, number, items;
    }

    static final class Thing {
        int shelf, worth, chance;
    }

    static final class Text {
        ToIntFunction<int[]> takes, lets, walks;
    }

    static final class Saved {
        List<int[]> people = new ArrayList<>();
        List<int[]> things = new ArrayList<>();
        int ours, rule, served;
    }

    /** An errand, and what it comes to. */
    record Errand(List<Integer> order, int back, int letBy, int gain, int worth) { }

    List<Person> people = new ArrayList<>();
    List<Thing> things = new ArrayList<>();
    List<Text> texts = new ArrayList<>();
    StringBuilder tape = new StringBuilder();
    int ours = 0, rule = 0, served = 0;
    Saved saved = null;
    int[][] sheets = new int[4][];
    int[] sorts = {-1, -1, -1, -1};

    Model() {
        texts.add(new ModelText("takes 3 ; lets 10 + wait * 5 ; walks 2 + items ;").read());
    }

    // ---- the line

    int customer(int kind, int what) {
        if (kind < 0 || kind > 5 || what < 0 || what / 10 > 40) return -2;
        if (people.size() == 8) return -4;
        Person p = new Person();
        p.kind = kind;
        p.items = what / 10;
        p.number = what % 10;
        people.add(p);
        return people.size() - 1;
    }

    int thing(int shelf, int what) {
        if (shelf < 0 || shelf > 99 || what < 0 || what / 1000 > 99 || what % 1000 > 100) return -2;
        if (things.size() == 6) return -4;
        Thing t = new Thing();
        t.shelf = shelf;
        t.worth = what / 1000;
        t.chance = what % 1000;
        things.add(t);
        return things.size() - 1;
    }

    boolean in(int i, int n) {
        return i >= 0 && i < n;
    }

    int set(int what, int of, int v) {
        if (what < 0 || what > 5 || v < 0) return -2;
        if (what == 0) {
            if (v > people.size()) return -2;
            int was = ours;
            ours = v;
            return was;
        }
        if (!in(of, what <= 2 ? people.size() : things.size())) return -2;
        if (v > new int[] {0, 40, 9, 99, 99, 100}[what]) return -2;
        int was = told(of, what);
        if (what == 1) people.get(of).items = v;
        if (what == 2) people.get(of).number = v;
        if (what == 3) things.get(of).shelf = v;
        if (what == 4) things.get(of).worth = v;
        if (what == 5) things.get(of).chance = v;
        return was;
    }

    int told(int of, int what) {
        if (what < 0 || what > 7) return -2;
        boolean aThing = what >= 3 && what <= 5;
        if (!in(of, aThing ? things.size() : people.size())) return -2;
        if (what == 0) return people.get(of).kind;
        if (what == 1) return people.get(of).items;
        if (what == 2) return people.get(of).number;
        if (what == 3) return things.get(of).shelf;
        if (what == 4) return things.get(of).worth;
        if (what == 5) return things.get(of).chance;
        return what == 6 ? seconds(people.get(of), of) : minds(people.get(of), of, 0);
    }

    int serve() {
        if (people.isEmpty()) return -3;
        int s = seconds(people.get(0), 0);
        people.remove(0);
        if (ours > 0) ours--;
        served++;
        return s;
    }

    int bounded(int v) {
        return v < 0 ? 0 : v > 99 ? 99 : v;
    }

    int seconds(Person p, int place) {
        return secondsOfKind(p, place, p.kind);
    }

    int secondsOfKind(Person p, int place, int kind) {
        switch (kind) {
            case 1: return secondsOfKind(p, place, 0) + 5 * p.number;
            case 2: return Math.min(60, secondsOfKind(p, place, 0));
            case 3: return secondsOfKind(p, place, 1) + (p.items % 2) * 20;
            case 4: return secondsOfKind(p, place, 2) + p.number;
            case 5: return secondsOfKind(p, place, 0) / 2;
            default:
                int[] names = {p.items, p.number, place, ours, 0, people.size()};
                return p.items * bounded(texts.get(rule).takes.applyAsInt(names));
        }
    }

    int minds(Person p, int place, int wait) {
        int[] names = {p.items, p.number, place, ours, wait, people.size()};
        int v = bounded(texts.get(rule).lets.applyAsInt(names));
        int[] byKind = {v, v, 2 * v, 0, 2 * v - p.number, v + 1};
        return Math.max(0, byKind[p.kind]);
    }

    int step(int had) {
        return bounded(texts.get(rule).walks.applyAsInt(new int[] {had, 0, 0, ours, 0, people.size()}));
    }

    // ---- texts

    int feed(int letter) {
        if (letter < 0 || letter > 255) return -2;
        if (tape.length() == 160) return -4;
        tape.append((char) letter);
        return tape.length();
    }

    int text() {
        if (texts.size() == 6) return -4;
        ModelText t = new ModelText(tape.toString());
        tape.setLength(0);
        Text read = t.read();
        if (read == null) return -100 - t.fault;
        texts.add(read);
        return texts.size() - 1;
    }

    int force(int text) {
        if (!in(text, texts.size())) return -2;
        int was = rule;
        rule = text;
        return was;
    }

    // ---- errands

    int turn() {
        int sum = 0;
        for (int i = 0; i < ours; i++) sum += seconds(people.get(i), i);
        return sum;
    }

    int distance(int a, int b) {
        return Math.abs(a / 10 - b / 10) + Math.abs(a % 10 - b % 10);
    }

    int backOf(List<Integer> order) {
        int at = 0, time = 0, had = 0;
        for (int t : order) {
            time += distance(at, things.get(t).shelf) * step(had);
            had++;
            at = things.get(t).shelf;
        }
        return time + distance(at, 0) * step(had);
    }

    Errand weigh(List<Integer> order) {
        int back = backOf(order);
        int until = turn();
        int letBy = 0, sorry = 0;
        while (back > until && ours + letBy < people.size()) {
            Person p = people.get(ours + letBy);
            sorry += minds(p, ours + letBy, letBy);
            until += seconds(p, ours + letBy);
            letBy++;
        }
        int worth = 0;
        for (int t : order) worth += things.get(t).worth;
        return new Errand(order, back, letBy, worth - sorry - Math.max(0, back - until), worth);
    }

    /** All orders of all sets of these. */
    List<List<Integer>> orders(List<Integer> of) {
        List<List<Integer>> all = new ArrayList<>();
        all.add(new ArrayList<>());
        for (int first : of) {
            List<Integer> rest = new ArrayList<>(of);
            rest.remove((Integer) first);
            for (List<Integer> tail : orders(rest)) {
                List<Integer> one = new ArrayList<>();
                one.add(first);
                one.addAll(tail);
                all.add(one);
            }
        }
        return all;
    }

    int lexically(List<Integer> a, List<Integer> b) {
        for (int i = 0; i < Math.min(a.size(), b.size()); i++) {
            if (!a.get(i).equals(b.get(i))) return a.get(i) - b.get(i);
        }
        return a.size() - b.size();
    }

    Errand bestOf(List<Integer> there) {
        Comparator<Errand> better = Comparator.comparingInt((Errand e) -> -e.gain)
            .thenComparingInt(e -> e.order.size())
            .thenComparing((a, b) -> lexically(a.order, b.order));
        return Collections.min(orders(there).stream().map(this::weigh).collect(Collectors.toList()), better);
    }

    List<Integer> everything() {
        return IntStream.range(0, things.size()).boxed().collect(Collectors.toList());
    }

    static int digits(List<Integer> order) {
        String s = "0";
        for (int t : order) s += (t + 1);
        return Integer.parseInt(s);
    }

    List<Integer> nearestOrder() {
        List<Integer> order = new ArrayList<>();
        while (true) {
            int at = order.isEmpty() ? 0 : things.get(order.get(order.size() - 1)).shelf;
            List<Integer> left = everything();
            left.removeAll(order);
            if (left.isEmpty()) return order;
            left.sort(Comparator.comparingInt((Integer t) -> distance(at, things.get(t).shelf)).thenComparing(t -> t));
            List<Integer> longer = new ArrayList<>(order);
            longer.add(left.get(0));
            if (backOf(longer) > turn()) return order;
            order = longer;
        }
    }

    /** The things that the first n numbers tell; null: not all, or twice. */
    List<Integer> thingsOf(int[] row, int n) {
        List<Integer> order = new ArrayList<>();
        for (int i = 0; i < n; i++) {
            if (!in(row[i], things.size()) || order.contains(row[i])) return null;
            order.add(row[i]);
        }
        return order;
    }

    List<Integer> errandOf(int sheet) {
        return !in(sheet, 4) || sheets[sheet] == null ? null : thingsOf(sheets[sheet], sheets[sheet].length);
    }

    int part(Errand e, int what) {
        return new int[] {digits(e.order), e.back, e.gain, e.letBy}[what];
    }

    int errand(int sheet, int what) {
        if (!in(what, 4) || errandOf(sheet) == null) return -100000;
        Errand e = weigh(errandOf(sheet));
        return new int[] {e.back, e.letBy, e.gain, e.worth}[what];
    }

    int nearest(int what) {
        return in(what, 3) ? part(weigh(nearestOrder()), what) : -100000;
    }

    int best(int what) {
        return in(what, 4) ? part(bestOf(everything()), what) : -100000;
    }

    int latest(int thing, int n) {
        if (!in(thing, things.size()) || !in(n, 7)) return -2;
        return Math.max(-1, turn() - distance(things.get(thing).shelf, 0) * step(n));
    }

    int leave() {
        List<Integer> order = bestOf(everything()).order;
        int least = Integer.MAX_VALUE, found = -1;
        for (Integer t : order) {
            List<Integer> others = new ArrayList<>(order);
            others.remove(t);
            if (backOf(others) < least) {
                least = backOf(others);
                found = t;
            }
        }
        return found;
    }

    int more(int thing) {
        if (!in(thing, things.size())) return -100000;
        List<Integer> others = everything();
        others.remove((Integer) thing);
        return bestOf(everything()).gain - bestOf(others).gain;
    }

    int stand(int what) {
        if (!in(what, 2)) return -100000;
        int was = ours, most = Integer.MIN_VALUE, place = -1;
        for (ours = 0; ours <= people.size(); ours++) {
            int g = bestOf(everything()).gain;
            if (g > most) {
                most = g;
                place = ours;
            }
        }
        ours = was;
        return what == 0 ? place : most;
    }

    int change(int what) {
        if (!in(what, 2)) return -2;
        int least = turn(), pair = -1;
        for (int a = 0; a < ours; a++) {
            for (int b = ours; b < people.size(); b++) {
                Collections.swap(people, a, b);
                int t = turn();
                Collections.swap(people, a, b);
                if (t < least) {
                    least = t;
                    pair = 10 * a + b;
                }
            }
        }
        return what == 0 ? pair : least;
    }

    int lines(int what) {
        if (!in(what, 3)) return -2;
        int[] sums = new int[2];
        for (int i = 0; i < ours; i++) sums[i % 2] += seconds(people.get(i), i);
        return what < 2 ? sums[what] : sums[1] < sums[0] ? 1 : 0;
    }

    long likely(int sheet) {
        if (errandOf(sheet) == null) return -4611686018427387904L;
        Errand e = weigh(errandOf(sheet));
        long sum = 0;
        for (int t : e.order) sum += things.get(t).worth * things.get(t).chance;
        return sum - 100L * (e.worth - e.gain);
    }

    // ---- slips

    int slip(int sheet, int what) {
        if (!in(sheet, 4) || !in(what, 2)) return -2;
        if (sheets[sheet] == null) return -11;
        int n = sheets[sheet].length;
        if (n == 0) return -2;
        List<Integer> of = thingsOf(sheets[sheet], n - 1);
        if (of == null) return -2;
        List<List<Integer>> fit = orders(of).stream()
            .filter(o -> o.size() == of.size() && backOf(o) == sheets[sheet][n - 1])
            .sorted(this::lexically).collect(Collectors.toList());
        return what == 0 ? fit.size() : fit.isEmpty() ? -1 : digits(fit.get(0));
    }

    int served(int sheet, int who) {
        if (!in(sheet, 4)) return -2;
        if (sheets[sheet] == null) return -11;
        int[] row = sheets[sheet];
        if (row.length > people.size() || who < -1 || who >= row.length) return -2;
        int first = -1, bits = 0;
        for (int i = row.length - 1; i >= 0; i--) {
            long own = row[i] - (i == 0 ? 0L : row[i - 1]);
            if (own != seconds(people.get(i), i)) first = i;
            for (int k = 0; k < 6 && i == who; k++) {
                if (own == secondsOfKind(people.get(i), i, k)) bits += 1 << k;
            }
        }
        return who == -1 ? first : bits;
    }

    int film(int sheet, int n) {
        if (!in(sheet, 4) || n < 0 || n > people.size()) return -2;
        sorts[sheet] = 2;
        sheets[sheet] = new int[n];
        int sum = 0;
        for (int i = 0; i < n; i++) sheets[sheet][i] = sum += seconds(people.get(i), i);
        return n;
    }

    Errand drawnErrand(int seed) {
        List<Integer> there = new ArrayList<>();
        int z = seed;
        for (int t : everything()) {
            z = z * 1103515245 + 12345;
            if ((z >>> 9) % 100 < things.get(t).chance) there.add(t);
        }
        return bestOf(there);
    }

    int drawn(int seed) {
        return drawnErrand(seed).gain;
    }

    long chance(int seed, int n, int part) {
        if (n < 1 || n > 20 || !in(part, 2)) return -4611686018427387904L;
        int calm = 0;
        for (int i = 0; i < n; i++) if (drawnErrand(seed + i).letBy == 0) calm++;
        int above = calm, below = n;
        for (int d = 2; d <= n; d++) {
            while (above % d == 0 && below % d == 0) {
                above /= d;
                below /= d;
            }
        }
        return part == 0 ? above : below;
    }

    int image() {
        saved = new Saved();
        for (Person p : people) saved.people.add(new int[] {p.items, p.number});
        for (Thing t : things) saved.things.add(new int[] {t.shelf, t.worth, t.chance});
        saved.ours = ours;
        saved.rule = rule;
        saved.served = served;
        return people.size();
    }

    int back() {
        if (saved == null || saved.served != served) return -3;
        while (people.size() > saved.people.size()) people.remove(people.size() - 1);
        while (things.size() > saved.things.size()) things.remove(things.size() - 1);
        for (int i = 0; i < people.size(); i++) {
            people.get(i).items = saved.people.get(i)[0];
            people.get(i).number = saved.people.get(i)[1];
        }
        for (int i = 0; i < things.size(); i++) {
            things.get(i).shelf = saved.things.get(i)[0];
            things.get(i).worth = saved.things.get(i)[1];
            things.get(i).chance = saved.things.get(i)[2];
        }
        ours = saved.ours;
        rule = saved.rule;
        return people.size();
    }

    int count(int what) {
        if (!in(what, 7)) return -2;
        return new int[] {people.size(), things.size(), ours, texts.size(), tape.length(), rule, served}[what];
    }

    // ---- the host

    int sheet(int sheet, int sort, int n) {
        if (!in(sheet, 4) || sort < -1 || sort > 2 || sort != -1 && n > 40) return -2;
        if (sort != -1 && n < 0) return -14;
        sorts[sheet] = sort;
        sheets[sheet] = sort == -1 ? null : new int[n];
        return 1;
    }

    int cell(int sheet, int i, int v) {
        if (!in(sheet, 4)) return -2;
        if (sheets[sheet] == null) return -11;
        if (!in(i, sheets[sheet].length)) return -12;
        sheets[sheet][i] = sorts[sheet] == 0 ? (byte) v : sorts[sheet] == 1 ? (short) v : v;
        return 1;
    }

    int copy(int sheet, int i, int other, int j, int n) {
        if (!in(sheet, 4) || !in(other, 4)) return -2;
        if (sheets[sheet] == null || sheets[other] == null) return -11;
        if (sorts[sheet] != sorts[other]) return -13;
        long a = (long) i + n, b = (long) j + n;
        if (i < 0 || j < 0 || n < 0 || a > sheets[sheet].length || b > sheets[other].length) return -12;
        int[] was = sheets[sheet].clone();
        for (int k = 0; k < n; k++) sheets[other][j + k] = was[i + k];
        return n;
    }

    int customers(int sheet, int sort, int from, int n) {
        if (!in(sheet, 4) || !in(sort, 3) || !in(n, 9)) return -2;
        if (sheets[sheet] == null) return -11;
        if (sorts[sheet] != sort) return -13;
        int came = 0;
        for (int k = 0; k < n; k++) {
            long at = (long) from + 2 * k;
            if (at < 0 || at + 1 >= sheets[sheet].length) return -12;
            if (customer(sheets[sheet][(int) at], sheets[sheet][(int) at + 1]) >= 0) came++;
        }
        return came;
    }

    int taken(int customer, int k) {
        if (!in(k, 6)) return -2;
        if (!in(customer, people.size())) return -11;
        String[] over = {"0", "01", "02", "013", "024", "05"};
        Person p = people.get(customer);
        return over[p.kind].indexOf((char) ('0' + k)) >= 0 ? p.number : -13;
    }
}
