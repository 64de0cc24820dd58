import java.util.ArrayList;
import java.util.Arrays;
import java.util.List;
import java.util.function.ToIntFunction;

/** Reads a text for the Model: a tree of functions of the six names, and exceptions for faults. */
final class ModelText {
    private static final class Stop extends RuntimeException {
        private static final long serialVersionUID = 1;
    }

    private static final List<String> NAMES = Arrays.asList("items", "number", "place", "ours", "wait", "many");
    private static final List<String> KEYS = Arrays.asList("takes", "lets", "walks", "or", "and", "not");

    private final String source;
    private final List<String> tokens = new ArrayList<>();
    private final List<Integer> places = new ArrayList<>();
    private int at = 0;
    private int open = 0;
    int fault = -1;

    ModelText(String source) {
        this.source = source;
    }

    Model.Text read() {
        split();
        try {
            Model.Text t = new Model.Text();
            eat("takes");
            t.takes = or();
            eat(";");
            eat("lets");
            t.lets = or();
            eat(";");
            eat("walks");
            t.walks = or();
            eat(";");
            eat("");
            return t;
        } catch (Stop s) {
            fault = places.get(at);
            return null;
        }
    }

    /** A token that is none such stands as "?"; the end as "". */
    private void split() {
        int i = 0;
        while (i < source.length()) {
            char ch = source.charAt(i);
            int end = i + 1;
            if (ch == ' ' || ch == '\n') {
                i++;
                continue;
            }
            if (ch >= 'a' && ch <= 'z') {
                while (end < source.length() && source.charAt(end) >= 'a' && source.charAt(end) <= 'z') end++;
            } else if (ch >= '0' && ch <= '9') {
                while (end < source.length() && source.charAt(end) >= '0' && source.charAt(end) <= '9') end++;
            }
            String t = source.substring(i, end);
            boolean known = NAMES.contains(t) || KEYS.contains(t) || t.matches("[0-9]{1,4}")
                || "();+-*<=".contains(t);
            tokens.add(known ? t : "?");
            places.add(i);
            i = end;
        }
        tokens.add("");
        places.add(source.length());
    }

    private boolean sees(String t) {
        return tokens.get(at).equals(t);
    }

    private void eat(String t) {
        if (!sees(t)) throw new Stop();
        if (!t.isEmpty()) at++;
    }

    private void enter(String t) {
        if (open == 5) throw new Stop();
        eat(t);
        open++;
    }

    private static int bit(boolean b) {
        return b ? 1 : 0;
    }

    private ToIntFunction<int[]> or() {
        ToIntFunction<int[]> left = and();
        while (sees("or")) {
            eat("or");
            ToIntFunction<int[]> a = left, b = and();
            left = n -> bit(a.applyAsInt(n) != 0 || b.applyAsInt(n) != 0);
        }
        return left;
    }

    private ToIntFunction<int[]> and() {
        ToIntFunction<int[]> left = not();
        while (sees("and")) {
            eat("and");
            ToIntFunction<int[]> a = left, b = not();
            left = n -> bit(a.applyAsInt(n) != 0 && b.applyAsInt(n) != 0);
        }
        return left;
    }

    private ToIntFunction<int[]> not() {
        if (sees("not")) {
            enter("not");
            ToIntFunction<int[]> a = not();
            open--;
            return n -> bit(a.applyAsInt(n) == 0);
        }
        ToIntFunction<int[]> a = sum();
        if (sees("<")) {
            eat("<");
            ToIntFunction<int[]> b = sum();
            return n -> bit(a.applyAsInt(n) < b.applyAsInt(n));
        }
        if (sees("=")) {
            eat("=");
            ToIntFunction<int[]> b = sum();
            return n -> bit(a.applyAsInt(n) == b.applyAsInt(n));
        }
        return a;
    }

    private ToIntFunction<int[]> sum() {
        ToIntFunction<int[]> left = term();
        while (sees("+") || sees("-")) {
            boolean plus = sees("+");
            at++;
            ToIntFunction<int[]> a = left, b = term();
            left = n -> plus ? a.applyAsInt(n) + b.applyAsInt(n) : a.applyAsInt(n) - b.applyAsInt(n);
        }
        return left;
    }

    private ToIntFunction<int[]> term() {
        ToIntFunction<int[]> left = one();
        while (sees("*")) {
            eat("*");
            ToIntFunction<int[]> a = left, b = one();
            left = n -> a.applyAsInt(n) * b.applyAsInt(n);
        }
        return left;
    }

    private ToIntFunction<int[]> one() {
        String t = tokens.get(at);
        if (t.matches("[0-9]+")) {
            at++;
            int v = Integer.parseInt(t);
            return n -> v;
        }
        if (NAMES.contains(t)) {
            at++;
            int i = NAMES.indexOf(t);
            return n -> n[i];
        }
        if (sees("-")) {
            enter("-");
            ToIntFunction<int[]> a = one();
            open--;
            return n -> -a.applyAsInt(n);
        }
        enter("(");
        ToIntFunction<int[]> a = or();
        eat(")");
        open--;
        return a;
    }
}
