/** Promises 1 to 6, 10 and 28 at their edges: each sentence that names one has a test of its own. */
public final class LineEdgesTest {
    private static final int MIN = Check.MIN, MAX = Check.MAX;
    private static final Check c = new Check();

    public static void main(String[] args) {
        newObject();
        apart();
        eightCustomers();
        kindsOfCustomers();
        numbersOfCustomers();
        customerRefusals();
        sixThings();
        numbersOfThings();
        thingRefusals();
        setPlace();
        setWithinBounds();
        setOfWhom();
        setWhat();
        toldOfWhom();
        sixtyAtMost();
        oddItems();
        halfIsCut();
        pennies();
        mindsAtLeast();
        nobodyLetByWhenTold();
        serveNobody();
        serveMovesAll();
        serveMovesUs();
        serveTellsSecondsAsHeStood();
        turnOfNobodyAndOfAll();
        countWhat();
        lastCall();
        c.end();
    }

    private static void newObject() {
        c.says("1 Nobody, nothing to fetch.");
        KeepOurPlace x = new KeepOurPlace();
        c.inTurn("count", x::count, 0, 0, 0, 1, 0, 0, 0);
        c.inTurn("told of 0", what -> x.told(0, what), -2, -2, -2, -2, -2, -2, -2, -2);
        c.inTurn("set to 0", what -> x.set(what, 0, 0), 0, -2, -2, -2, -2, -2);
        c.due("serve", x.serve(), -3);
        c.due("text of nothing", x.text(), -100);
        c.due("force", x.force(0), 0);
        c.due("turn", x.turn(), 0);
        c.inTurn("nearest", x::nearest, 0, 0, 0);
        c.inTurn("best", x::best, 0, 0, 0, 0);
        c.due("latest", x.latest(0, 0), -2);
        c.due("leave", x.leave(), -1);
        c.due("more", x.more(0), -100000);
        c.inTurn("stand", x::stand, 0, 0);
        c.inTurn("change", x::change, -1, 0);
        c.inTurn("lines", x::lines, 0, 0, 0);
        c.due("drawn", x.drawn(0), 0);
        c.inTurn("chance, part", part -> x.chance(0, 20, part), 1, 1);
        c.due("back", x.back(), -3);
        c.due("taken", x.taken(0, 0), -11);
        for (int s = 0; s < 4; s++) {
            c.due("errand", x.errand(s, 0), -100000);
            c.due("likely", x.likely(s), KeepOurPlace.NO);
            c.due("slip", x.slip(s, 0), -11);
            c.due("served", x.served(s, -1), -11);
            c.due("cell", x.cell(s, 0, 0), -11);
            c.due("copy", x.copy(s, 0, s, 0, 0), -11);
            c.due("customers", x.customers(s, 0, 0, 0), -11);
        }
        c.due("image", x.image(), 0);
    }

    private static void apart() {
        c.says("1 A new object, whatever befell another one");
        KeepOurPlace other = new KeepOurPlace();
        Check.line(other, 1, 2, 3);
        other.thing(12, 50100);
        other.set(0, 0, 2);
        Check.row(other, 0, 0, 0);
        Check.rule(other, "takes 9; lets 9; walks 9;");
        other.feed(40);
        other.image();
        other.serve();
        KeepOurPlace x = new KeepOurPlace();
        c.inTurn("count", x::count, 0, 0, 0, 1, 0, 0, 0);
        c.due("back", x.back(), -3);
        c.due("cell", x.cell(0, 0, 0), -11);
        x.customer(0, 10);
        c.due("seconds", x.told(0, 6), 3);
        c.due("those of the other one", other.told(0, 6), 18);
    }

    private static void eightCustomers() {
        c.says("2 CUSTOMERS (8 at most, numbered from 0 as they stand)");
        KeepOurPlace x = new KeepOurPlace();
        c.inTurn("customer", i -> x.customer(i % 6, 10 * i), 0, 1, 2, 3, 4, 5, 6, 7, -4, -4);
        c.due("count", x.count(0), 8);
        c.inTurn("items", i -> x.told(i, 1), 0, 1, 2, 3, 4, 5, 6, 7, -2);
        x.serve();
        c.due("one has room again", x.customer(0, 400), 7);
        c.due("his items", x.told(7, 1), 40);
        c.due("full again", x.customer(0, 400), -4);
    }

    private static void kindsOfCustomers() {
        c.says("2 a KIND: 0 .. 5");
        KeepOurPlace x = new KeepOurPlace();
        c.each("customer of kind", k -> x.customer(k, 0), -2, -1, 6, -6, 255, MIN, MAX);
        c.due("none came", x.count(0), 0);
        c.inTurn("customer of kind", k -> x.customer(k, 0), 0, 1, 2, 3, 4, 5);
        c.inTurn("kind", i -> x.told(i, 0), 0, 1, 2, 3, 4, 5);
    }

    private static void numbersOfCustomers() {
        c.says("2 a NUMBER (0 .. 9), ITEMS (0 .. 40)");
        KeepOurPlace x = new KeepOurPlace();
        c.each("customer of", what -> x.customer(0, what), -2, -1, -10, 410, 419, 500, MIN, MAX);
        c.due("none came", x.count(0), 0);
        int[] whats = {0, 9, 10, 400, 409};
        c.inTurn("customer", i -> x.customer(0, whats[i]), 0, 1, 2, 3, 4);
        c.inTurn("items", i -> x.told(i, 1), 0, 0, 1, 40, 40);
        c.inTurn("number", i -> x.told(i, 2), 0, 9, 0, 0, 9);
    }

    private static void customerRefusals() {
        c.says("2 BAD; FULL.");
        KeepOurPlace x = new KeepOurPlace();
        Check.line(x, 1, 1, 1, 1, 1, 1, 1, 1);
        c.due("both as told", x.customer(5, 409), -4);
        c.each("kind", k -> x.customer(k, 0), -2, -1, 6);
        c.each("what", what -> x.customer(0, what), -2, -1, 410);
        c.due("count", x.count(0), 8);
    }

    private static void sixThings() {
        c.says("3 THINGS (6 at most, numbered from 0)");
        KeepOurPlace x = new KeepOurPlace();
        c.inTurn("thing", i -> x.thing(i, 0), 0, 1, 2, 3, 4, 5, -4, -4);
        c.due("count", x.count(1), 6);
        c.inTurn("shelf", i -> x.told(i, 3), 0, 1, 2, 3, 4, 5, -2);
    }

    private static void numbersOfThings() {
        c.says("3 a SHELF (0 .. 9 each), a WORTH (0 .. 99), a CHANCE (0 .. 100 of 100)");
        KeepOurPlace x = new KeepOurPlace();
        c.each("thing at", shelf -> x.thing(shelf, 0), -2, -1, 100, 110, MIN, MAX);
        c.each("thing of", what -> x.thing(0, what), -2, -1, -100, -1000, 101, 999, 1101, 1999, 99101, 99999, 100000,
            100100, MIN, MAX);
        c.due("none came", x.count(1), 0);
        int[] shelves = {0, 9, 90, 99, 50};
        int[] whats = {0, 100, 1000, 99100, 99000};
        c.inTurn("thing", i -> x.thing(shelves[i], whats[i]), 0, 1, 2, 3, 4);
        c.inTurn("shelf", i -> x.told(i, 3), 0, 9, 90, 99, 50);
        c.inTurn("worth", i -> x.told(i, 4), 0, 0, 1, 99, 99);
        c.inTurn("chance", i -> x.told(i, 5), 0, 100, 0, 100, 0);
    }

    private static void thingRefusals() {
        c.says("3 BAD; FULL.");
        KeepOurPlace x = Check.shelves(0, 0, 0, 0, 0, 0, 0);
        c.due("both as told", x.thing(99, 99100), -4);
        c.each("shelf", shelf -> x.thing(shelf, 0), -2, -1, 100);
        c.each("what", what -> x.thing(0, what), -2, -1, 101, 100000);
        c.due("count", x.count(1), 6);
    }

    private static void setPlace() {
        c.says("4 OUR PLACE (0 .. how many there are; 0 at first; of does not matter)");
        KeepOurPlace x = new KeepOurPlace();
        c.due("nobody", x.set(0, 0, 1), -2);
        Check.line(x, 1, 1, 1, 1, 1, 1, 1, 1);
        c.due("0 at first", x.set(0, 0, 8), 0);
        c.each("beyond", v -> x.set(0, 0, v), -2, 9, -1, MIN, MAX);
        c.due("it stays", x.count(2), 8);
        c.each("of", of -> x.set(0, of, 8), 8, -1, 8, 99, MIN, MAX);
        c.due("least", x.set(0, 0, 0), 8);
        c.due("most", x.set(0, 0, 8), 0);
        x.serve();
        c.due("as many as are left", x.set(0, 0, 7), 7);
        c.due("one more", x.set(0, 0, 8), -2);
    }

    private static void setWithinBounds() {
        c.says("4 ITEMS, NUMBER, SHELF, WORTH, CHANCE becomes v: what it was. BAD.");
        KeepOurPlace x = new KeepOurPlace();
        x.customer(0, 57);
        x.thing(34, 12034);
        int[] was = {0, 5, 7, 34, 12, 34}, most = {0, 40, 9, 99, 99, 100};
        for (int k = 1; k <= 5; k++) {
            int what = k;
            c.each("set " + what, v -> x.set(what, 0, v), -2, -1, most[what] + 1, MIN, MAX);
            c.due("it stays " + what, x.told(0, what), was[what]);
            c.due("least " + what, x.set(what, 0, 0), was[what]);
            c.due("most " + what, x.set(what, 0, most[what]), 0);
            c.due("as it is " + what, x.set(what, 0, most[what]), most[what]);
        }
    }

    private static void setOfWhom() {
        c.says("4 of a CUSTOMER, of a THING. BAD.");
        KeepOurPlace people = new KeepOurPlace();
        Check.line(people, 4, 5, 6);
        for (int k = 1; k <= 2; k++) {
            int what = k;
            c.each("no customer " + what, of -> people.set(what, of, 1), -2, -1, 3, 7, 8, MIN, MAX);
            c.due("the last one " + what, people.set(what, 2, 1), what == 1 ? 6 : 0);
        }
        for (int k = 3; k <= 5; k++) {
            int what = k;
            c.each("no thing, but customers " + what, of -> people.set(what, of, 0), -2, 0, 2);
        }
        KeepOurPlace things = Check.shelves(7, 1, 2, 3, 4, 5, 6);
        for (int k = 3; k <= 5; k++) {
            int what = k;
            c.each("no thing " + what, of -> things.set(what, of, 1), -2, -1, 6, 7, MIN, MAX);
            c.due("the last one " + what, things.set(what, 5, 1), what == 3 ? 6 : what == 4 ? 7 : 100);
        }
        for (int k = 1; k <= 2; k++) {
            int what = k;
            c.each("no customer, but things " + what, of -> things.set(what, of, 0), -2, 0, 5);
        }
    }

    private static void setWhat() {
        c.says("4 what 0 .. 5. BAD.");
        KeepOurPlace x = Check.twoThings();
        Check.line(x, 1, 1);
        c.each("set", what -> x.set(what, 0, 0), -2, -1, 6, 7, 8, MIN, MAX);
    }

    private static void toldOfWhom() {
        c.says("5 Of a CUSTOMER: 0, 1, 2, 6, 7; of a THING: 3, 4, 5. BAD.");
        KeepOurPlace people = new KeepOurPlace();
        Check.line(people, 4, 5, 6);
        KeepOurPlace things = Check.shelves(7, 1, 2, 3, 4, 5, 6);
        for (int k : new int[] {0, 1, 2, 6, 7}) {
            c.each("no customer " + k, of -> people.told(of, k), -2, -1, 3, 7, 8, MIN, MAX);
            c.each("no customer, but things " + k, of -> things.told(of, k), -2, 0, 5);
        }
        for (int k = 3; k <= 5; k++) {
            int what = k;
            c.each("no thing " + what, of -> things.told(of, what), -2, -1, 6, 7, MIN, MAX);
            c.each("no thing, but customers " + what, of -> people.told(of, what), -2, 0, 2);
        }
        c.each("told of a customer", what -> people.told(0, what), -2, -1, 8, MIN, MAX);
        c.each("told of a thing", what -> things.told(0, what), -2, -1, 8, MIN, MAX);
        c.inTurn("the last customer", what -> people.told(2, what), 0, 6, 0, -2, -2, -2, 18, 10);
        c.inTurn("the last thing", what -> things.told(5, what), -2, -2, -2, 6, 7, 100, -2, -2);
    }

    private static long seconds(int kind, int items, int number) {
        KeepOurPlace x = new KeepOurPlace();
        x.customer(kind, 10 * items + number);
        return x.told(0, 6);
    }

    private static void sixtyAtMost() {
        c.says("5 CARDED: as a CUSTOMER, but 60 at most; COUPONED: NUMBER more than a CARDED");
        int[] items = {19, 20, 21, 40, 0};
        c.inTurn("carded", i -> seconds(2, items[i], 9), 57, 60, 60, 60, 0);
        c.inTurn("couponed", i -> seconds(4, items[i], 9), 66, 69, 69, 69, 9);
        c.inTurn("couponed of number 0", i -> seconds(4, items[i], 0), 57, 60, 60, 60, 0);
    }

    private static void oddItems() {
        c.says("5 CHATTY: 20 more than a PENNIES, if ITEMS are odd, else as a PENNIES");
        int[] items = {0, 1, 2, 39, 40};
        c.inTurn("chatty", i -> seconds(3, items[i], 9), 45, 3 + 45 + 20, 6 + 45, 117 + 45 + 20, 120 + 45);
        c.inTurn("chatty of number 0", i -> seconds(3, items[i], 0), 0, 23, 6, 137, 120);
        KeepOurPlace x = new KeepOurPlace();
        x.customer(3, 11);
        x.customer(3, 21);
        Check.rule(x, "takes items + 1; lets 0; walks 0;");
        c.inTurn("odd are the ITEMS, not what they take", i -> x.told(i, 6), 2 + 5 + 20, 6 + 5);
    }

    private static void halfIsCut() {
        c.says("5 HELPED: half (cut) of a CUSTOMER's");
        int[] items = {0, 1, 2, 3, 39, 40};
        c.inTurn("helped", i -> seconds(5, items[i], 9), 0, 1, 3, 4, 58, 60);
    }

    private static void pennies() {
        c.says("5 PENNIES: 5 times NUMBER more than a CUSTOMER");
        c.inTurn("pennies of no items", n -> seconds(1, 0, n), 0, 5, 10, 15, 20, 25, 30, 35, 40, 45);
        c.due("most", seconds(1, 40, 9), 165);
        KeepOurPlace x = new KeepOurPlace();
        x.customer(1, 409);
        Check.rule(x, "takes 99; lets 0; walks 0;");
        c.due("by the most that takes tells", x.told(0, 6), 40 * 99 + 45);
    }

    private static void mindsAtLeast() {
        c.says("5 COUPONED: NUMBER less than a CARDED (0 at least, in the end)");
        KeepOurPlace x = new KeepOurPlace();
        x.customer(4, 7);
        x.customer(4, 8);
        x.customer(4, 9);
        Check.rule(x, "takes 0; lets 4; walks 0;");
        c.inTurn("twice 4, less 7, 8, 9", i -> x.told(i, 7), 1, 0, 0);
        Check.rule(x, "takes 0; lets 0; walks 0;");
        c.inTurn("0, less 7, 8, 9", i -> x.told(i, 7), 0, 0, 0);
        Check.rule(x, "takes 0; lets 99; walks 0;");
        c.inTurn("twice 99, less 7, 8, 9", i -> x.told(i, 7), 191, 190, 189);
    }

    private static void nobodyLetByWhenTold() {
        c.says("5 7 MINDS (nobody having been let by)");
        KeepOurPlace x = new KeepOurPlace();
        for (int kind = 0; kind < 6; kind++) x.customer(kind, 9);
        Check.rule(x, "takes 0; lets 10 + wait * 50 + place; walks 0;");
        c.inTurn("minds", i -> x.told(i, 7), 10, 11, 24, 0, 19, 16);
        x.set(0, 0, 6);
        c.inTurn("minds, as all are ahead", i -> x.told(i, 7), 10, 11, 24, 0, 19, 16);
    }

    private static void serveNobody() {
        c.says("6 STATE: there is none.");
        KeepOurPlace x = Check.twoThings();
        c.due("nobody came", x.serve(), -3);
        Check.line(x, 1);
        c.due("the only one", x.serve(), 3);
        c.due("nobody is left", x.serve(), -3);
        c.due("one was served", x.count(6), 1);
        c.due("things stay", x.count(1), 2);
    }

    private static void serveMovesAll() {
        c.says("6 he is none any more (those of greater numbers have 1 less)");
        KeepOurPlace x = new KeepOurPlace();
        for (int i = 0; i < 8; i++) x.customer(i % 6, 11 * i);
        for (int gone = 1; gone <= 8; gone++) {
            x.serve();
            for (int i = 0; i < 8 - gone; i++) {
                c.due("kind", x.told(i, 0), (i + gone) % 6);
                c.due("items", x.told(i, 1), 11 * (i + gone) / 10);
                c.due("number", x.told(i, 2), 11 * (i + gone) % 10);
            }
            c.due("none behind", x.told(8 - gone, 0), -2);
            c.due("count", x.count(0), 8 - gone);
            c.due("served", x.count(6), gone);
        }
    }

    private static void serveMovesUs() {
        c.says("6 so has OUR PLACE, if it is above 0");
        KeepOurPlace x = new KeepOurPlace();
        Check.line(x, 1, 1, 1, 1);
        x.set(0, 0, 4);
        x.serve();
        c.due("of 4", x.count(2), 3);
        x.set(0, 0, 1);
        x.serve();
        c.due("of 1", x.count(2), 0);
        x.serve();
        c.due("of 0", x.count(2), 0);
    }

    private static void serveTellsSecondsAsHeStood() {
        c.says("6 his SECONDS");
        KeepOurPlace x = new KeepOurPlace();
        Check.line(x, 1, 1, 1);
        x.set(0, 0, 2);
        Check.rule(x, "takes many + ours * 10 + place * 40; lets 0; walks 0;");
        c.due("the first of 3, at 2", x.serve(), 23);
        c.due("the first of 2, at 1", x.serve(), 12);
        c.due("the first of 1, at 0", x.serve(), 1);
    }

    private static void turnOfNobodyAndOfAll() {
        c.says("10 TURN: SECONDS of all AHEAD, together");
        KeepOurPlace x = new KeepOurPlace();
        for (int i = 0; i < 8; i++) x.customer(3, 399);
        c.due("nobody ahead", x.turn(), 0);
        x.set(0, 0, 1);
        c.due("one", x.turn(), 182);
        x.set(0, 0, 8);
        c.due("all", x.turn(), 8 * 182);
        Check.rule(x, "takes 99; lets 0; walks 0;");
        c.due("the most there can be", x.turn(), 8 * (39 * 99 + 45 + 20));
    }

    private static void countWhat() {
        c.says("28 How many: 0 .. 6. BAD.");
        KeepOurPlace x = new KeepOurPlace();
        c.each("count", x::count, -2, -1, 7, 8, MIN, MAX);
    }

    private static void lastCall() {
        c.says("An object is used for at most 512 calls after it has been made");
        KeepOurPlace x = Check.shelves(50, 12, 1, 99, 90, 9, 55);
        Check.line(x, 40, 40, 40, 40, 40, 40, 40, 40);
        int gain = x.stand(1);
        for (int call = 16; call <= 512; call++) c.due("call " + call, x.stand(1), gain);
    }
}
