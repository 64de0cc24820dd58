/** Promises 7 to 9: the tape, texts, the rule. */
public final class TextsTest {
    private static final Check c = new Check();

    public static void main(String[] args) {
        feed();
        values();
        bounds();
        faults();
        full();
        longest();
        force();
        c.end();
    }

    private static void feed() {
        KeepOurPlace x = new KeepOurPlace();
        c.due("7 below", x.feed(-1), -2);
        c.due("7 above", x.feed(256), -2);
        c.due("7 empty yet", x.count(4), 0);
        c.due("7 least", x.feed(0), 1);
        c.due("7 most", x.feed(255), 2);
        for (int i = 3; i <= 160; i++) c.due("7 byte " + i, x.feed(32), i);
        c.due("7 full", x.feed(32), -4);
        c.due("7 bad ahead of full", x.feed(256), -2);
        c.due("7 counted", x.count(4), 160);
        c.due("8 a byte that begins none", x.text(), -100);
        c.due("8 empty by a fault, too", x.count(4), 0);
        c.due("7 room again", x.feed(1), 1);
    }

    private static void value(String e, int want) {
        c.due("8 " + e, Check.takes(e), want);
    }

    private static void values() {
        value("5", 5);
        value("0007", 7);
        value("items", 1);
        value("number", 7);
        value("place", 1);
        value("ours", 2);
        value("wait", 0);
        value("many", 3);
        value("2+3*4", 14);
        value("(2+3)*4", 20);
        value("20-3-4", 13);
        value("20-(3-4)", 21);
        value("- 2 + 9", 7);
        value("-2*-3", 6);
        value("3*-2+10", 4);
        value("- - 4", 4);
        value("- ( 2 - 9 )", 7);
        value("2<3", 1);
        value("3<3", 0);
        value("3=3", 1);
        value("3=4", 0);
        value("1+2=3", 1);
        value("-1<0", 1);
        value("not 0", 1);
        value("not 5", 0);
        value("not not 5", 1);
        value("not 1 < 0", 1);
        value("(not 0) + 4", 5);
        value("7 or 0", 1);
        value("0 or 0", 0);
        value("7 and 2", 1);
        value("7 and 0", 0);
        value("1 or 1 and 0", 1);
        value("(1 or 1) and 0", 0);
        value("not 0 and 0", 0);
        value("not (0 and 0)", 1);
        value("0 or 1 = 1 or 0", 1);
        value("(1<2)<3", 1);
        // 9999 to the third is -1027349969 by wrapping, to the fourth 1089432001
        value("9999*9999*9999", 0);
        value("9999*9999*9999 < 0", 1);
        value("9999*9999*9999*9999", 99);
        value("9999*9999*9999*9999 - (9999*9999*9999 - 9999*9999*9999*9999) < 0", 1);
        value("(((((5)))))", 5);
        value("(1)+(((((2)))))+(((((3)))))", 6);
        value("- - - - - 5 + 9", 4);
        value("- - - - - 5 + - 2 + 9", 2);
        value("not not not not not 0", 1);
        value("1 and not not not not not 0 and not not not not not 0", 1);
        value("not(not(-5<0))", 1);
        value("3\n", 3);
    }

    private static void bounds() {
        value("99", 99);
        value("100", 99);
        value("9999", 99);
        value("0-1", 0);
        value("-9999", 0);
        KeepOurPlace x = new KeepOurPlace();
        x.customer(0, 10);
        x.thing(1, 0);
        Check.row(x, 0, 0, 0);
        Check.rule(x, "takes 1;lets 100;walks 100;");
        c.due("8 lets above", x.told(0, 7), 99);
        c.due("8 walks above", x.errand(0, 0), 198);
        Check.rule(x, "takes 1;lets -1;walks -1;");
        c.due("8 lets below", x.told(0, 7), 0);
        c.due("8 walks below", x.errand(0, 0), 0);
        Check.rule(x, "takes 1;lets many * 10 + ours + place;walks number + place + wait + items * 7 + many;");
        c.due("8 names of lets", x.told(0, 7), 10);
        c.due("8 names of walks", x.errand(0, 0), 1 + 8);
        Check.rule(x, "takes3;lets10;walks2+items;");
        c.due("8 blanks may be missing", x.told(0, 6), 3);
    }

    private static void fault(String text, int place) {
        c.due("8 fault of " + text, Check.text(new KeepOurPlace(), text), -100 - place);
    }

    private static void faults() {
        fault("", 0);
        fault("   ", 3);
        fault("takes", 5);
        fault("takes 3 ; lets 1 ; walks 2", 26);
        fault("takes 3 ; lets 1 ; walks 2 \n", 28);
        fault("takes 3 ; lets 1 ; walks 2 ; ;", 29);
        fault("takes 3 ; lets 1 ; walks 2 ; takes 3 ;", 29);
        fault("takes 3 ; lets 1 ; walks 2 ;!", 28);
        fault(" lets 1 ; takes 3 ; walks 2 ;", 1);
        fault("takes 3 ; walks 1 ; lets 2 ;", 10);
        fault("takes ; lets", 6);
        fault("takes 3 4", 8);
        fault("takes 12345;", 6);
        fault("takes 01234;", 6);
        fault("takes 1234 x", 11);
        fault("takes item;", 6);
        fault("takes itemsnumber;", 6);
        fault("takes a;", 6);
        fault("takes itemsz;", 6);
        fault("takes zitems;", 6);
        fault("takes Items;", 6);
        fault("takes 3 + + 4;", 10);
        fault("takes 3 + * 4;", 10);
        fault("takes 3 + not 4;", 10);
        fault("takes - not 4;", 8);
        fault("takes 1 < 2 < 3;", 12);
        fault("takes 1 = 2 = 3;", 12);
        fault("takes 1 < not 3;", 10);
        fault("takes or 1;", 6);
        fault("takes 1 or;", 10);
        fault("takes lets;", 6);
        fault("takes (1;", 8);
        fault("takes (1));", 9);
        fault("takes ();", 7);
        fault("takes 3,", 7);
        fault("takes\t3;", 5);
        fault("takes 3\r;", 7);
        fault("takes 3 > 2;", 8);
        fault("takes ((((((5))))));", 11);
        fault("takes (((((-5)))));", 11);
        fault("takes (((((not 5)))));", 11);
        fault("takes ------5;", 11);
        fault("takes not not not not not not 5;", 26);
        fault("takes not not not not not (5);", 26);
        fault("takes not not not not not 5 < -5;", 30);
        fault("takes not not not not not 5 - 5 + -1;", 34);
        fault("takes (((((1-1)+(-1)))));", 17);
        fault("takes -(-(-1)+-1)+-(-(-(-1)));", 23);
        fault("takes -(-(-1)+-(-1))+-(-(-(1)));", 26);
        fault("takes 3;lets 1;walks ((((((", 26);
        fault("takes 3;lets 12345", 13);
        fault("takes 3 ; lets 1 ; walks 2 ; 12345", 29);
        c.due("8 sound", Check.text(new KeepOurPlace(), "\n takes 3 ; lets 1 ; walks 2 ; \n"), 1);
    }

    private static void full() {
        KeepOurPlace x = new KeepOurPlace();
        c.due("8 a fault is no text", Check.text(x, "takes"), -105);
        c.due("8 texts yet", x.count(3), 1);
        for (int i = 1; i < 6; i++) {
            c.due("8 text " + i, Check.text(x, "takes " + i + ";lets 0;walks 0;"), i);
            c.due("8 the tape is empty", x.count(4), 0);
        }
        c.due("8 six", x.count(3), 6);
        x.feed('!');
        c.due("8 full ahead of all", x.text(), -4);
        c.due("8 the tape stays", x.count(4), 1);
        x.customer(0, 10);
        for (int i = 1; i < 6; i++) {
            c.due("9 was", x.force(i), i - 1);
            c.due("9 tells", x.told(0, 6), i);
        }
    }

    /** As much as fits on a tape, three times. */
    private static void longest() {
        KeepOurPlace x = new KeepOurPlace();
        x.customer(0, 10);
        for (int i = 1; i < 4; i++) {
            StringBuilder s = new StringBuilder("takes " + i);
            while (s.length() < 139) s.append("+1");
            c.due("8 the longest", Check.text(x, s + ";lets " + i + ";walks 2;   "), i);
            x.force(i);
            c.due("8 takes of it", x.told(0, 6), 66 + i);
            c.due("8 lets of it", x.told(0, 7), i);
        }
    }

    private static void force() {
        KeepOurPlace x = new KeepOurPlace();
        c.due("9 none such", x.force(1), -2);
        c.due("9 below", x.force(-1), -2);
        c.due("9 itself", x.force(0), 0);
        c.due("8 a text", Check.text(x, "takes 9;lets 8;walks 7;"), 1);
        x.customer(0, 10);
        c.due("8 it is no rule yet", x.told(0, 6), 3);
        c.due("9 which was", x.force(1), 0);
        c.due("9 takes", x.told(0, 6), 9);
        c.due("9 lets", x.told(0, 7), 8);
        c.due("9 counted", x.count(5), 1);
        c.due("9 above", x.force(2), -2);
        c.due("9 stays", x.count(5), 1);
        c.due("9 back", x.force(0), 1);
        c.due("9 takes again", x.told(0, 6), 3);
    }
}
