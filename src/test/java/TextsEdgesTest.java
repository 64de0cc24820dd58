import java.util.Arrays;
import java.util.List;

/** Promises 7 to 9 at their edges: each sentence that names one has a test of its own. */
public final class TextsEdgesTest {
    private static final int MIN = Check.MIN, MAX = Check.MAX;
    private static final String SOUND = "takes 3;lets 1;walks 2;";
    // The least int is 8192 * 8192 * 32, by wrapping; the greatest is one less.
    private static final String LEAST = "8192*8192*32", GREATEST = "8192*8192*32-1";

    private static final String[] TOKENS = {
        "takes", "lets", "walks", "or", "and", "not", "items", "number", "place", "ours", "wait", "many", "7",
        "(", ")", ";", "+", "-", "*", "<", "=",
    };
    private static final String NAMES = "items number place ours wait many 7";
    private static final String ONE = NAMES + " ( -", START = ONE + " not";
    private static final String SUMMED = "+ - * or and", WHOLE = SUMMED + " < =";

    private static final Check c = new Check();

    public static void main(String[] args) {
        bytes();
        fullTape();
        emptyAfterText();
        emptyAfterFault();
        nothingLeftBehind();
        longestText();
        sixTexts();
        fullAheadOfAll();
        whatCanStand();
        whatCanStandWhenFiveAreOpen();
        endsTooEarly();
        beginsNone();
        asLongAsCanBe();
        fourDigits();
        blanks();
        wrapping();
        oneOrZero();
        bounds();
        namesOfTakes();
        namesOfLets();
        namesOfWalks();
        firstText();
        force();
        c.end();
    }

    // ---- the tape

    private static void bytes() {
        c.says("7 A byte (0 .. 255). BAD");
        KeepOurPlace x = new KeepOurPlace();
        c.each("feed", x::feed, -2, -1, 256, -128, 65536, MIN, MAX);
        c.due("none came", x.count(4), 0);
        c.due("least", x.feed(0), 1);
        c.due("most", x.feed(255), 2);
    }

    private static void fullTape() {
        c.says("7 THE TAPE (160 bytes at most). BAD; FULL");
        KeepOurPlace x = new KeepOurPlace();
        for (int n = 1; n <= 160; n++) c.due("feed", x.feed(40), n);
        c.each("feed to a full tape", x::feed, -4, 0, 40, 255);
        c.each("feed no byte to a full tape", x::feed, -2, -1, 256);
        c.due("count", x.count(4), 160);
    }

    private static void emptyAfterText() {
        c.says("8 THE TAPE, which is empty then, is a TEXT: its number");
        KeepOurPlace x = new KeepOurPlace();
        c.due("text", Check.text(x, SOUND), 1);
        c.due("count", x.count(4), 0);
        c.due("texts", x.count(3), 2);
        c.due("an empty tape is none", x.text(), -100);
        c.due("texts then", x.count(3), 2);
    }

    private static void emptyAfterFault() {
        c.says("8 empty then (by a FAULT, too)");
        KeepOurPlace x = new KeepOurPlace();
        for (int n = 0; n <= 160; n += 40) {
            for (int i = 0; i < n; i++) x.feed('(');
            c.due("text of " + n, x.text(), -100);
            c.due("count after " + n, x.count(4), 0);
        }
        c.due("texts", x.count(3), 1);
        c.due("room again", x.feed('('), 1);
    }

    private static void nothingLeftBehind() {
        c.says("8 what stood on THE TAPE before is no part of a TEXT");
        KeepOurPlace digits = new KeepOurPlace();
        for (int i = 0; i < 160; i++) digits.feed('9');
        c.due("a long NUMBER", digits.text(), -100);
        c.due("ends with a NUMBER", Check.text(digits, "takes 9"), -107);
        KeepOurPlace letters = new KeepOurPlace();
        for (int i = 0; i < 160; i++) letters.feed('z');
        c.due("a long WORD", letters.text(), -100);
        c.due("ends with a NAME", Check.text(letters, "takes items"), -111);
        KeepOurPlace text = new KeepOurPlace();
        c.due("sound", Check.text(text, SOUND), 1);
        c.due("ends where the other went on", Check.text(text, SOUND.substring(0, 15)), -115);
    }

    private static void longestText() {
        c.says("8 a TEXT of 160 bytes");
        KeepOurPlace x = new KeepOurPlace();
        x.customer(0, 10);
        StringBuilder s = new StringBuilder("takes 1");
        while (s.length() < 145) s.append("+1");
        c.due("text", Check.text(x, s + ";lets 1;walks 2"), -260);
        s.setLength(143);
        s.append(" +");
        c.due("text ends behind a sign", Check.text(x, s.substring(0, 145) + "               "), -260);
        s.setLength(137);
        c.due("text", Check.text(x, s + ";lets 50+20+9;walks 2; ".substring(0, 23)), 1);
        x.force(1);
        c.due("takes", x.told(0, 6), 66);
        c.due("lets", x.told(0, 7), 79);
    }

    private static void sixTexts() {
        c.says("8 There are 6 TEXTS at most, TEXT 0 with them.");
        KeepOurPlace x = new KeepOurPlace();
        c.due("at first", x.count(3), 1);
        for (int n = 1; n <= 5; n++) {
            c.due("a FAULT takes no room", Check.text(x, "takes"), -105);
            c.due("text", Check.text(x, SOUND), n);
        }
        c.due("count", x.count(3), 6);
        c.due("a seventh", Check.text(x, SOUND), -4);
        c.due("count then", x.count(3), 6);
        c.due("the last", x.force(5), 0);
        c.due("no seventh", x.force(6), -2);
    }

    private static void fullAheadOfAll() {
        c.says("8 FULL (ahead of all): no TEXT more has room (THE TAPE stays).");
        KeepOurPlace x = new KeepOurPlace();
        for (int n = 1; n <= 5; n++) Check.text(x, SOUND);
        c.due("an empty tape", x.text(), -4);
        x.feed('!');
        c.due("a FAULT", x.text(), -4);
        c.due("it stays", x.count(4), 1);
        c.due("and goes on", x.feed('!'), 2);
    }

    // ---- FAULT

    private static void fault(String text, int place) {
        c.due(text, Check.text(new KeepOurPlace(), text), -100 - place);
    }

    /** Behind a beginning only these TOKENS can stand, and the text is too short with each of them. */
    private static void onlyThese(String beginning, String these) {
        List<String> can = Arrays.asList(these.split(" "));
        String ahead = beginning.isEmpty() ? "" : beginning + " ";
        for (String token : TOKENS) {
            String text = ahead + token;
            fault(text, can.contains(token) ? text.length() : ahead.length());
        }
        for (String none : new String[] {"!", "item", "12345"}) fault(ahead + none, ahead.length());
    }

    private static void whatCanStand() {
        c.says("8 FAULT: the first byte of the first TOKEN that can't stand there");
        onlyThese("", "takes");
        onlyThese("takes", START);
        onlyThese("takes 1", WHOLE + " ;");
        for (String sign : new String[] {"<", "=", "+", "-", "*"}) onlyThese("takes 1 " + sign, ONE);
        for (String key : new String[] {"or", "and"}) onlyThese("takes 1 " + key, START);
        onlyThese("takes -", ONE);
        onlyThese("takes not", START);
        onlyThese("takes not 1", WHOLE + " ;");
        onlyThese("takes not 1 < 1", SUMMED + " ;");
        onlyThese("takes 1 < 1", SUMMED + " ;");
        onlyThese("takes 1 = 1 + 1", SUMMED + " ;");
        onlyThese("takes 1 = 1 or 1", WHOLE + " ;");
        onlyThese("takes 1 = 1 and 1", WHOLE + " ;");
        onlyThese("takes (", START);
        onlyThese("takes (1", WHOLE + " )");
        onlyThese("takes (1 < 1", SUMMED + " )");
        onlyThese("takes (1 < 1)", WHOLE + " ;");
        onlyThese("takes 1;", "lets");
        onlyThese("takes 1; lets", START);
        onlyThese("takes 1; lets 1", WHOLE + " ;");
        onlyThese("takes 1; lets 1;", "walks");
        onlyThese("takes 1; lets 1; walks", START);
        onlyThese("takes 1; lets 1; walks 1;", "nothing");
        fault("takes 1; ) ) ! 12345", 9);
        fault("takes ! )", 6);
        c.due("a whole one", Check.text(new KeepOurPlace(), "takes 1; lets 1; walks 1;"), 1);
    }

    private static void whatCanStandWhenFiveAreOpen() {
        c.says("8 FAULT: a ( , a not, a - ahead of a ONE while 5 of these are open");
        String[] four = {"((((", "not not not not", "not ( not (", "not not ( ("};
        for (String open : four) onlyThese("takes " + open, START);
        onlyThese("takes - - - -", ONE);
        onlyThese("takes not ( - (", START);
        String[] five = {
            "(((((", "not not not not not", "- - - - -", "- ( - ( -", "not ( not ( not", "not not ( ( -", "( - - - (",
        };
        for (String open : five) onlyThese("takes " + open, NAMES);
        onlyThese("takes 1; lets (((((", NAMES);
        onlyThese("takes 1; lets 1; walks (((((", NAMES);
        c.says("8 (a ( till its ) ends)");
        onlyThese("takes (((((1", WHOLE + " )");
        for (String sign : new String[] {"+", "-", "*", "<"}) onlyThese("takes (((((1 " + sign, NAMES);
        onlyThese("takes (((((1 or", NAMES);
        onlyThese("takes (((((1 and", NAMES);
        onlyThese("takes ((((1 or 1 and (", NAMES);
        onlyThese("takes (((((1) +", ONE);
        onlyThese("takes (((((1) or", START);
        onlyThese("takes (((((1) or (", NAMES);
        onlyThese("takes (((((1))))) or ((((", START);
        c.says("8 (not till what it belongs to ends)");
        for (String sign : new String[] {"+", "-", "*", "<", "=", "< 1 -"}) {
            onlyThese("takes not not not not not 1 " + sign, NAMES);
        }
        onlyThese("takes not not not not not 1 and", START);
        onlyThese("takes not not not not not 1 = 1 or not not not not", START);
        onlyThese("takes (not not not not 1 or", START);
        c.says("8 (- till what it belongs to ends)");
        for (String sign : new String[] {"+", "-", "*", "<"}) onlyThese("takes - - - - - 1 " + sign, ONE);
        onlyThese("takes - - - - - 1 - - - - -", ONE);
        onlyThese("takes - - - - ( 1 )", WHOLE + " ;");
    }

    private static void endsTooEarly() {
        c.says("8 FAULT: (the text's size, if it ends too early)");
        String[] tokens = "takes 3 ; lets 10 + wait * 5 ; walks not ( 2 + - items ) < 7 ;".split(" ");
        StringBuilder s = new StringBuilder();
        fault(" ", 1);
        for (int i = 0; i < tokens.length - 1; i++) {
            s.append(tokens[i]);
            fault(s.toString(), s.length());
            s.append(" ");
            fault(s.toString(), s.length());
            fault(s + "\n  ", s.length() + 3);
        }
        c.due("a whole one", Check.text(new KeepOurPlace(), s + ";"), 1);
    }

    private static void beginsNone() {
        c.says("8 FAULT: a byte that begins none");
        for (int b = 0; b < 256; b++) {
            boolean blank = b == 32 || b == 10;
            boolean begins = b >= 'a' && b <= 'z' || b >= '0' && b <= '9' || "();+-*<=".indexOf(b) >= 0;
            if (blank) fault("takes" + (char) b, 6);
            else if (!begins) fault("takes items" + (char) b, 11);
        }
        c.says("8 FAULT: a WORD that is neither KEY nor NAME");
        String[] words = {"item", "itemss", "a", "z", "take", "takess", "nots", "an", "o", "walk", "let", "number0s"};
        for (String word : words) fault("takes " + word, word.equals("number0s") ? 12 : 6);
        fault("takez", 0);
        fault("takes 1 ors 1", 8);
        c.says("8 FAULT: a NUMBER that is too long");
        fault("takes 10000", 6);
        fault("takes 00000", 6);
        fault("takes 3; lets 123456789", 14);
        fault("12345", 0);
    }

    private static void asLongAsCanBe() {
        c.says("8 TOKENS, each as long as can be");
        for (String last : new String[] {"a", "m", "z"}) fault("takes items" + last, 6);
        for (String next : new String[] {"`", "{", "A", "Z", "_"}) fault("takes items" + next, 11);
        for (String last : new String[] {"0", "5", "9"}) fault("takes 1234" + last, 6);
        for (String next : new String[] {"/", ":", "."}) fault("takes 1234" + next, 10);
        fault("takesitems", 0);
        fault("takes notitems", 6);
        fault("takes 1 2", 8);
        fault("takes 3items", 7);
        c.due("not(1", Check.takes("not(1<0)"), 1);
        c.due("a NUMBER between KEYS", Check.takes("0or1and1"), 1);
        c.due("a NUMBER behind a KEY", Check.takes("not0"), 1);
        c.due("a sign is one byte", Check.takes("--9"), 9);
        c.due("no blanks at all", Check.text(new KeepOurPlace(), "takes3;lets10+wait*5;walks2+items;"), 1);
    }

    private static void fourDigits() {
        c.says("8 NUMBERS (as many digits as stand there, 4 at most)");
        c.due("0", Check.takes("0"), 0);
        c.due("9", Check.takes("9"), 9);
        c.due("0000", Check.takes("0000"), 0);
        c.due("0099", Check.takes("0099"), 99);
        c.due("9999", Check.takes("9999 - 9990"), 9);
        c.due("1234", Check.takes("1234 - 1200"), 34);
        c.due("5678", Check.takes("5678 - 5600"), 78);
    }

    private static void blanks() {
        c.says("8 blanks (32, 10) may stand between");
        c.due("everywhere", Check.text(new KeepOurPlace(), " \n takes \n 3 \n ; lets\n10\n;walks \n 2 ; \n\n "), 1);
        fault("takes 1 0 ;", 8);
        fault("take s", 0);
        for (char other : new char[] {9, 11, 12, 13, 0, 31, 33, 160}) fault("takes" + other, 5);
    }

    // ---- E

    private static void wrapping() {
        c.says("8 An E is an int (32 bits, wrapping)");
        c.due("the least is below 0", Check.takes(LEAST + " < 0"), 1);
        c.due("the greatest is not", Check.takes(GREATEST + " < 0"), 0);
        c.due("the least less 1", Check.takes(LEAST + "-1"), 99);
        c.due("the greatest and 1", Check.takes(GREATEST + "+1 =" + LEAST), 1);
        c.due("- of the least", Check.takes("-(" + LEAST + ") < 0"), 1);
        c.due("twice the least", Check.takes(LEAST + "*2 + 7"), 7);
        c.due("8192 * 8192 * 64", Check.takes("8192*8192*64 = 0"), 1);
        c.due("9999 * 9999 * 9999 is -1027349969",
            Check.takes("9999*9999*9999 + 9999*9999*10 + 9999*2755 + 2714 + 60"), 60);
        c.due("the least is below the greatest", Check.takes(LEAST + "<" + GREATEST), 1);
        c.due("the greatest is not below the least", Check.takes(GREATEST + "<" + LEAST), 0);
    }

    private static void oneOrZero() {
        c.says("8 of or, and, not, <, = 1 or 0 (what is not 0 is true)");
        String[] operands = {"0", "1", "-1", "5", "(-5)", "(" + LEAST + ")"};
        for (int i = 0; i < operands.length; i++) {
            for (int k = 0; k < operands.length; k++) {
                String l = operands[i], r = operands[k];
                int both = i > 0 && k > 0 ? 1 : 0, any = i > 0 || k > 0 ? 1 : 0;
                c.due(l + " and " + r, Check.takes("7 + (" + l + " and " + r + ")"), 7 + both);
                c.due(l + " or " + r, Check.takes("7 + (" + l + " or " + r + ")"), 7 + any);
                c.due(l + " = " + r, Check.takes("7 + (" + l + " = " + r + ")"), i == k ? 8 : 7);
            }
            c.due("not " + operands[i], Check.takes("7 + (not " + operands[i] + ")"), i == 0 ? 8 : 7);
        }
        KeepOurPlace nothing = new KeepOurPlace();
        nothing.customer(0, 0);
        Check.rule(nothing, "takes 0; lets not items + number + place; walks 0;");
        c.due("not of 0, where all is 0", nothing.told(0, 7), 1);
        int[] left = {0, 1, 2, 1, -1, 0}, right = {0, 1, 1, 2, 0, -1};
        c.inTurn("<", i -> Check.takes("7 + (" + left[i] + " < " + right[i] + ")"), 7, 7, 7, 8, 8, 7);
    }

    private static void bounds() {
        c.says("8 seconds, how bad it is (0 .. 99, else the bound)");
        String[] told = {"-1", "0", "1", "98", "99", "100", "9999", LEAST, GREATEST};
        long[] due = {0, 0, 1, 98, 99, 99, 99, 0, 99};
        c.inTurn("takes", i -> Check.takes(told[i]), due);
        c.inTurn("lets", i -> {
            KeepOurPlace x = new KeepOurPlace();
            x.customer(0, 0);
            Check.rule(x, "takes 0; lets " + told[i] + "; walks 0;");
            return x.told(0, 7);
        }, due);
        c.inTurn("walks, half a step", i -> {
            KeepOurPlace x = Check.shelves(0, 1);
            Check.row(x, 0, 0, 0);
            Check.rule(x, "takes 0; lets 0; walks " + told[i] + ";");
            return x.errand(0, 0) / 2;
        }, due);
    }

    /** Five customers, the first of 1 item and number 4, each other one of 1 more; our place is 2. */
    private static KeepOurPlace five() {
        KeepOurPlace x = new KeepOurPlace();
        for (int i = 0; i < 5; i++) x.customer(0, 10 * (i + 1) + 4 + i);
        x.set(0, 0, 2);
        return x;
    }

    /** Of the third of five. */
    private static long third(int what, String rule) {
        KeepOurPlace x = five();
        Check.rule(x, rule);
        return x.told(2, what);
    }

    private static final String[] EACH_NAME = {"items", "number", "place", "ours", "wait", "many"};

    private static void namesOfTakes() {
        c.says("8 takes (items, number: his; place: how many stand ahead of him; wait of takes 0; many; ours)");
        c.inTurn("name", i -> third(6, "takes " + EACH_NAME[i] + "; lets 0; walks 0;") / 3, 3, 6, 2, 2, 0, 5);
        KeepOurPlace x = Check.shelves(50, 12);
        Check.line(x, 1, 1, 1);
        Check.row(x, 0, 0, 0);
        Check.rule(x, "takes 7 + wait * 50; lets 0; walks 3;");
        c.due("LET BY by 18 seconds, 7 each", x.errand(0, 1), 3);
    }

    private static void namesOfLets() {
        c.says("8 lets (items, number: his; place: how many stand ahead of him; wait: how many were LET BY ahead)");
        c.inTurn("name", i -> third(7, "takes 0; lets " + EACH_NAME[i] + "; walks 0;"), 3, 6, 2, 2, 0, 5);
        long[] minds = {3 + 4 + 5, 6 + 7 + 8, 2 + 3 + 4, 2 * 3, 0 + 1 + 2, 5 * 3};
        c.inTurn("MINDS of three LET BY, by name", i -> {
            KeepOurPlace x = five();
            x.thing(1, 99000);
            Check.row(x, 0, 0, 0);
            Check.rule(x, "takes 0; lets " + EACH_NAME[i] + "; walks 1;");
            return 99 - 2 - x.errand(0, 2);
        }, minds);
    }

    private static void namesOfWalks() {
        c.says("8 walks (items: how many THINGS she has; number, place, wait 0; many; ours)");
        c.inTurn("name", i -> {
            KeepOurPlace x = five();
            x.thing(1, 0);
            x.thing(2, 0);
            Check.row(x, 0, 0, 0, 1);
            Check.rule(x, "takes 0; lets 0; walks " + EACH_NAME[i] + ";");
            return x.errand(0, 0);
        }, 0 + 1 + 2 * 2, 0, 0, 2 * 4, 0, 5 * 4);
        KeepOurPlace six = Check.shelves(0, 1, 2, 3, 4, 5, 6);
        Check.row(six, 0, 0, 0, 1, 2, 3, 4, 5);
        Check.rule(six, "takes 0; lets 0; walks items;");
        c.due("0, then 1 .. 5, and 6 things back", six.errand(0, 0), 0 + 1 + 2 + 3 + 4 + 5 + 6 * 6);
    }

    private static void firstText() {
        c.says("8 TEXT 0, at first THE RULE, is: takes 3 ; lets 10 + wait * 5 ; walks 2 + items ;");
        KeepOurPlace x = Check.shelves(99, 1, 2);
        Check.line(x, 1, 1, 1);
        Check.row(x, 0, 0, 0, 1);
        c.due("THE RULE", x.count(5), 0);
        c.due("takes", x.told(0, 6), 3);
        c.due("lets", x.told(0, 7), 10);
        c.due("walks", x.errand(0, 0), 2 + 3 + 4 * 2);
        c.due("wait", x.errand(0, 2), 198 - 10 - 15 - 20 - (13 - 9));
    }

    private static void force() {
        c.says("9 A TEXT is THE RULE: which was. BAD.");
        KeepOurPlace x = new KeepOurPlace();
        c.each("force", x::force, -2, -1, 1, 5, 6, MIN, MAX);
        Check.text(x, SOUND);
        c.each("force", x::force, -2, -1, 2, MIN, MAX);
        c.due("THE RULE stays", x.count(5), 0);
        c.due("itself", x.force(0), 0);
        c.due("the last", x.force(1), 0);
        c.each("force", x::force, -2, -1, 2);
        c.due("THE RULE stays then", x.count(5), 1);
        c.due("itself again", x.force(1), 1);
    }
}
