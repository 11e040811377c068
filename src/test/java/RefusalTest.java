import java.util.List;

/**
 * 'Refusals, the first that fits, in the order told at each act ... They change nothing (FINDINGS but count() 8)':
 * each refused call is made on one of two objects that are alike; behind it both must still be.
 */
public final class RefusalTest {
    private static final int LEAST = Integer.MIN_VALUE;
    private static final int MOST = Integer.MAX_VALUE;
    private static final int BAD = -2, NOT = -3, FULL = -4;
    private static final int NULL = 1, INDEX = 2, CAST = 3, STORE = 4, SIZE = 5;
    private static final Check c = new Check();

    private interface Maker {
        MarketSpring make();
    }

    private interface Call {
        long on(MarketSpring x);
    }

    public static void main(String[] args) {
        town();
        townThatIsFull();
        settings();
        read();
        ways();
        days();
        couldBe();
        best();
        bestOfTooMany();
        thief();
        seenThatIsFull();
        sheet();
        lose();
        putAndGet();
        copy();
        copyIndex();
        write();
        count();
        questionsChangeNothing();
        anyNumbers();
        c.end();
    }

    // ---- objects that are refused something

    /** Three things (one may wait, one is SHUT), SHEETS 0 to 2 of FORMS 0 to 2, SHEET 3 LOST. */
    private static MarketSpring some() {
        MarketSpring x = Check.town("t100305!;t070006;t090812;h2;h5;g40072133;g50181244");
        x.set(2, 70);
        x.set(3, 2);
        x.set(5, 1);
        x.set(6, 4);
        x.set(7, 60);
        x.set(8, 1);
        x.shut(2, 1);
        x.shut(5, 1);
        x.shift(0, 3);
        x.shift(1, 23);
        x.shift(4, 7);
        x.seen(10, x.robbed(4, 6, 10));
        x.seen(40, x.robbed(4, 6, 40));
        for (int s = 0; s < 3; s++) {
            x.sheet(s, s, 5 - s);
            for (int i = 0; i < 5 - s; i++) {
                x.put(s, s, i, 10 * s + i + 1);
            }
        }
        x.sheet(3, 1, 2);
        x.lose(3);
        return x;
    }

    /** As some(), but a FINDING (SIZE) has been made. */
    private static MarketSpring found() {
        MarketSpring x = some();
        x.sheet(0, 0, -1);
        return x;
    }

    /** A text of 100 bytes that is well, and 12 SEEN. */
    private static MarketSpring full() {
        MarketSpring x = Check.town("g01000100;g02010100;g03020100;g04030100;g05040100;g06050100;g07060100;"
            + "g08070100;t090812!;t110503!;h1");
        for (int n = 0; n < 12; n++) {
            x.seen(n, 100);
        }
        x.sheet(1, 1, -1);
        return x;
    }

    /** Four things that may wait (0, 2, 3, 5), one that MUST (1), one that is SHUT (4). */
    private static MarketSpring manyWait() {
        MarketSpring x = Check.town("t100305;t070006!;t090812;t030020;t030020;t050105;h2;g40072133");
        x.shut(4, 1);
        x.sheet(1, 1, -1);
        return x;
    }

    private static MarketSpring empty() {
        return new MarketSpring();
    }

    /** finding: the number that count(8) tells then; 0: the one that it told before. */
    private static void refused(String what, Maker maker, Call call, long want, int finding) {
        MarketSpring x = maker.make();
        MarketSpring twin = maker.make();
        c.due(what, call.on(x), want);
        List<String> now = State.of(x);
        List<String> before = State.of(twin);
        String unlike = State.difference(now, before, "count(8)");
        c.holds(what + " changes nothing: " + unlike, unlike == null);
        String latest = finding == 0 ? before.get(8) : "count(8) = " + finding;
        c.holds(what + ": " + now.get(8) + ", due is " + latest, now.get(8).equals(latest));
    }

    /** As BAD; made both where no FINDING was and where one was, which must stay. */
    private static void bad(String what, Call call, long want) {
        refused(what, RefusalTest::some, call, want, 0);
        refused(what, RefusalTest::found, call, want, 0);
    }

    private static void bad(String what, Call call) {
        bad(what, call, BAD);
    }

    private static void finding(String what, Call call, int number) {
        refused(what, RefusalTest::some, call, -10 - number, number);
        if (number != SIZE) {
            refused(what, RefusalTest::found, call, -10 - number, number);
        }
    }

    // ---- the town

    private static void town() {
        c.about("2 type: BAD");
        for (int b : new int[] {-1, 256, LEAST, MOST}) {
            bad("type(" + b + ")", x -> x.type(b));
        }
        c.about("5 thing: BAD");
        for (int t : new int[] {-1, 3, 5, 6, LEAST, MOST}) {
            bad("thing(" + t + ", 0)", x -> x.thing(t, 0));
            bad("thing(" + t + ", 4)", x -> x.thing(t, 4));
            bad("thing(" + t + ", 5)", x -> x.thing(t, 5));
        }
        for (int what : new int[] {-1, 6, LEAST, MOST}) {
            bad("thing(0, " + what + ")", x -> x.thing(0, what));
        }
        refused("thing(0, 0) of none", RefusalTest::empty, x -> x.thing(0, 0), BAD, 0);
        c.about("6 handle: BAD");
        for (int street : new int[] {-1, 9, 32, 34, LEAST, MOST}) {
            bad("handle(" + street + ")", x -> x.handle(street));
        }
        c.about("7 group: BAD");
        for (int g : new int[] {-1, 2, 7, 8, LEAST, MOST}) {
            bad("group(" + g + ", 0)", x -> x.group(g, 0));
        }
        for (int what : new int[] {-1, 6, LEAST, MOST}) {
            bad("group(0, " + what + ")", x -> x.group(0, what));
        }
        refused("group(0, 0) of none", RefusalTest::empty, x -> x.group(0, 0), BAD, 0);
    }

    private static void townThatIsFull() {
        c.about("2 type: FULL");
        refused("type('h')", RefusalTest::full, x -> x.type('h'), FULL, 0);
        refused("type(';')", RefusalTest::full, x -> x.type(';'), FULL, 0);
        refused("type(0)", RefusalTest::full, x -> x.type(0), FULL, 0);
        refused("type(255)", RefusalTest::full, x -> x.type(255), FULL, 0);
        c.about("2 type: BAD; FULL, the first that fits");
        refused("type(-1)", RefusalTest::full, x -> x.type(-1), BAD, 0);
        refused("type(256)", RefusalTest::full, x -> x.type(256), BAD, 0);
    }

    private static void settings() {
        c.about("8 set: BAD: -5");
        int[] below = {0, 0, -1, -1, -1, -1, -1, -1, -1};
        int[] above = {10, 1000, 1000, 100, 10, 2, 100, 1000, 100};
        for (int n = 0; n < 9; n++) {
            int what = n;
            for (int v : new int[] {below[what], above[what], LEAST, MOST}) {
                bad("set(" + what + ", " + v + ")", x -> x.set(what, v), -5);
            }
        }
        for (int what : new int[] {-1, 9, LEAST, MOST}) {
            bad("set(" + what + ", 1)", x -> x.set(what, 1), -5);
            bad("set(" + what + ", -1)", x -> x.set(what, -1), -5);
        }
        c.about("9 shut: BAD");
        for (int t : new int[] {-1, 6, 32, LEAST, MOST}) {
            bad("shut(" + t + ", 1)", x -> x.shut(t, 1));
            bad("shut(" + t + ", 0)", x -> x.shut(t, 0));
            bad("shut(" + t + ", 2)", x -> x.shut(t, 2));
        }
        for (int v : new int[] {-1, 2, LEAST, MOST}) {
            bad("shut(0, " + v + ")", x -> x.shut(0, v));
            bad("shut(5, " + v + ")", x -> x.shut(5, v));
        }
        c.about("10 shift: BAD");
        for (int t : new int[] {-1, 6, LEAST, MOST}) {
            bad("shift(" + t + ", 5)", x -> x.shift(t, 5));
            bad("shift(" + t + ", 24)", x -> x.shift(t, 24));
        }
        for (int v : new int[] {-1, 24, LEAST, MOST}) {
            bad("shift(0, " + v + ")", x -> x.shift(0, v));
            bad("shift(5, " + v + ")", x -> x.shift(5, v));
        }
    }

    private static void read() {
        c.about("11 read: BAD");
        for (int s : new int[] {-1, 4, LEAST, MOST}) {
            bad("read(" + s + ")", x -> x.read(s));
        }
        c.about("11 read: NULL");
        finding("read(3)", x -> x.read(3), NULL);
        refused("read(0) at first", RefusalTest::empty, x -> x.read(0), -11, NULL);
    }

    // ---- ways, days

    private static void ways() {
        c.about("12 goes: BAD");
        for (int g : new int[] {-1, 2, 8, LEAST, MOST}) {
            bad("goes(" + g + ")", x -> x.goes(g));
        }
        refused("goes(0) of none", RefusalTest::empty, x -> x.goes(0), BAD, 0);
        c.about("13 toil: BAD");
        for (int asked : new int[] {-1, 2, LEAST, MOST}) {
            bad("toil(" + asked + ")", x -> x.toil(asked));
        }
        c.about("14 wound: BAD");
        for (int hour : new int[] {-1, 24, LEAST, MOST}) {
            bad("wound(" + hour + ")", x -> x.wound(hour));
        }
    }

    private static void days() {
        for (int hour : new int[] {-1, 240, LEAST, MOST}) {
            c.about("15 level: BAD");
            bad("level(" + hour + ", 0)", x -> x.level(hour, 0));
            bad("level(" + hour + ", 1)", x -> x.level(hour, 1));
            c.about("16 stands: BAD");
            bad("stands(0, " + hour + ")", x -> x.stands(0, hour));
            c.about("19 flow: BAD: -10002");
            bad("flow(" + hour + ")", x -> x.flow(hour), -10002);
        }
        for (int which : new int[] {-1, 2, LEAST, MOST}) {
            c.about("15 level: BAD");
            bad("level(0, " + which + ")", x -> x.level(0, which));
            c.about("20 worst: BAD");
            bad("worst(1, " + which + ")", x -> x.worst(1, which));
        }
        for (int t : new int[] {-1, 3, 6, LEAST, MOST}) {
            c.about("16 stands: BAD");
            bad("stands(" + t + ", 0)", x -> x.stands(t, 0));
            c.about("17 stood: BAD");
            bad("stood(" + t + ", 1)", x -> x.stood(t, 1));
        }
        refused("stands(0, 0) of none", RefusalTest::empty, x -> x.stands(0, 0), BAD, 0);
        refused("stood(0, 1) of none", RefusalTest::empty, x -> x.stood(0, 1), BAD, 0);
        for (int days : new int[] {-1, 0, 10, LEAST, MOST}) {
            c.about("17 stood: so many days (1 to 9). BAD");
            bad("stood(0, " + days + ")", x -> x.stood(0, days));
            c.about("18 lost: BAD");
            bad("lost(" + days + ")", x -> x.lost(days));
            c.about("20 worst: BAD");
            bad("worst(" + days + ", 0)", x -> x.worst(days, 0));
            bad("worst(" + days + ", 1)", x -> x.worst(days, 1));
        }
    }

    // ---- what could be

    private static void couldBe() {
        for (int days : new int[] {-1, 0, 10, LEAST, MOST}) {
            c.about("21 fewest: BAD");
            bad("fewest(" + days + ")", x -> x.fewest(days));
            c.about("22 place: BAD");
            bad("place(" + days + ", 0)", x -> x.place(days, 0));
            bad("place(" + days + ", 1)", x -> x.place(days, 1));
        }
        for (int what : new int[] {-1, 2, LEAST, MOST}) {
            bad("place(1, " + what + ")", x -> x.place(1, what));
        }
    }

    private static void best() {
        c.about("23 best: BAD");
        for (int t : new int[] {-3, 3, 6, LEAST, MOST}) {
            bad("best(" + t + ")", x -> x.best(t));
        }
        refused("best(0) of none", RefusalTest::empty, x -> x.best(0), BAD, 0);
        c.about("23 best: NOT: it may not wait");
        bad("best(0), MUST", x -> x.best(0), NOT);
        bad("best(2), SHUT", x -> x.best(2), NOT);
    }

    private static void bestOfTooMany() {
        c.about("23 best: FULL, ahead of what THING it is");
        for (int t = -2; t <= 5; t++) {
            int thing = t;
            refused("best(" + t + ")", RefusalTest::manyWait, x -> x.best(thing), FULL, 0);
        }
        c.about("23 best: BAD; FULL, the first that fits");
        for (int t : new int[] {-3, 6, LEAST, MOST}) {
            refused("best(" + t + ")", RefusalTest::manyWait, x -> x.best(t), BAD, 0);
        }
    }

    // ---- a thief

    private static void thief() {
        c.about("25 seen: BAD");
        for (int hour : new int[] {-1, 240, LEAST, MOST}) {
            bad("seen(" + hour + ", 5)", x -> x.seen(hour, 5));
            c.about("29 robbed: BAD");
            bad("robbed(0, 1, " + hour + ")", x -> x.robbed(0, 1, hour));
            c.about("25 seen: BAD");
        }
        for (int level : new int[] {-1, 1000, LEAST, MOST}) {
            bad("seen(0, " + level + ")", x -> x.seen(0, level));
        }
        c.about("28 thief: BAD");
        for (int what : new int[] {-1, 2, LEAST, MOST}) {
            bad("thief(" + what + ")", x -> x.thief(what));
        }
        c.about("29 robbed: BAD");
        for (int hour : new int[] {-1, 24, LEAST, MOST}) {
            bad("robbed(" + hour + ", 1, 0)", x -> x.robbed(hour, 1, 0));
        }
        for (int v : new int[] {-1, 41, LEAST, MOST}) {
            bad("robbed(0, " + v + ", 0)", x -> x.robbed(0, v, 0));
        }
    }

    private static void seenThatIsFull() {
        c.about("25 seen: FULL");
        refused("seen(20, 100)", RefusalTest::full, x -> x.seen(20, 100), FULL, 0);
        refused("seen(0, 100), once more", RefusalTest::full, x -> x.seen(0, 100), FULL, 0);
        refused("seen(239, 999)", RefusalTest::full, x -> x.seen(239, 999), FULL, 0);
        c.about("25 seen: BAD; FULL, the first that fits");
        refused("seen(-1, 0)", RefusalTest::full, x -> x.seen(-1, 0), BAD, 0);
        refused("seen(240, 0)", RefusalTest::full, x -> x.seen(240, 0), BAD, 0);
        refused("seen(0, -1)", RefusalTest::full, x -> x.seen(0, -1), BAD, 0);
        refused("seen(0, 1000)", RefusalTest::full, x -> x.seen(0, 1000), BAD, 0);
    }

    // ---- sheets

    private static void sheet() {
        c.about("30 sheet: BAD: SHEET");
        for (int s : new int[] {-1, 4, LEAST, MOST}) {
            bad("sheet(" + s + ", 0, 1)", x -> x.sheet(s, 0, 1));
        }
        c.about("30 sheet: BAD: FORM");
        for (int form : new int[] {-1, 3, LEAST, MOST}) {
            bad("sheet(0, " + form + ", 1)", x -> x.sheet(0, form, 1));
            bad("sheet(3, " + form + ", 1)", x -> x.sheet(3, form, 1));
        }
        c.about("30 sheet: BAD: above 48");
        for (int n : new int[] {49, MOST}) {
            bad("sheet(0, 0, " + n + ")", x -> x.sheet(0, 0, n));
            bad("sheet(3, 0, " + n + ")", x -> x.sheet(3, 0, n));
        }
        c.about("30 sheet: SIZE");
        for (int n : new int[] {-1, -49, LEAST}) {
            finding("sheet(0, 0, " + n + ")", x -> x.sheet(0, 0, n), SIZE);
            finding("sheet(3, 2, " + n + ")", x -> x.sheet(3, 2, n), SIZE);
        }
        c.about("30 sheet: BAD ..; SIZE, the first that fits");
        bad("sheet(-1, 0, -1)", x -> x.sheet(-1, 0, -1));
        bad("sheet(4, 0, -1)", x -> x.sheet(4, 0, -1));
        bad("sheet(0, -1, -1)", x -> x.sheet(0, -1, -1));
        bad("sheet(0, 3, -1)", x -> x.sheet(0, 3, -1));
    }

    private static void lose() {
        c.about("31 lose: BAD");
        for (int s : new int[] {-1, 4, LEAST, MOST}) {
            bad("lose(" + s + ")", x -> x.lose(s));
        }
        c.about("31 lose: NULL");
        finding("lose(3)", x -> x.lose(3), NULL);
        refused("lose(0) at first", RefusalTest::empty, x -> x.lose(0), -11, NULL);
    }

    /** Both take the same refusals; get() tells them all as the least int. */
    private static void item(String what, int s, int form, int i, int number) {
        String call = what + " (" + s + ", " + form + ", " + i + ")";
        c.about("32 put: BAD; NULL; CAST; INDEX");
        if (number == 0) {
            bad("put " + call, x -> x.put(s, form, i, 77));
        } else {
            finding("put " + call, x -> x.put(s, form, i, 77), number);
        }
        c.about("33 get: BAD: the least int; so are NULL, CAST, INDEX (count() 8 tells)");
        refused("get " + call, RefusalTest::some, x -> x.get(s, form, i), LEAST, number);
        refused("get " + call, RefusalTest::found, x -> x.get(s, form, i), LEAST, number);
    }

    private static void putAndGet() {
        for (int s : new int[] {-1, 4, LEAST, MOST}) {
            item("no such SHEET", s, 0, 0, 0);
            item("no such SHEET, ahead of INDEX", s, 0, -1, 0);
        }
        for (int form : new int[] {-1, 3, LEAST, MOST}) {
            item("no such FORM", 0, form, 0, 0);
            item("no such FORM, ahead of NULL", 3, form, 0, 0);
            item("no such FORM, ahead of INDEX", 0, form, 5, 0);
        }
        for (int form = 0; form < 3; form++) {
            item("LOST", 3, form, 0, NULL);
            item("LOST, ahead of INDEX", 3, form, -1, NULL);
            for (int s = 0; s < 3; s++) {
                if (s != form) {
                    item("another FORM", s, form, 0, CAST);
                    item("another FORM, ahead of INDEX", s, form, 5 - s, CAST);
                    item("another FORM, ahead of INDEX", s, form, -1, CAST);
                }
            }
        }
        for (int s = 0; s < 3; s++) {
            item("no such item", s, s, -1, INDEX);
            item("no such item", s, s, 5 - s, INDEX);
            item("no such item", s, s, 48, INDEX);
            item("no such item", s, s, LEAST, INDEX);
            item("no such item", s, s, MOST, INDEX);
        }
    }

    private static void copy() {
        c.about("34 copy: BAD: the SHEETS");
        for (int s : new int[] {-1, 4, LEAST, MOST}) {
            bad("copy(" + s + ", 0, 0, 0, 1)", x -> x.copy(s, 0, 0, 0, 1));
            bad("copy(0, 0, " + s + ", 0, 1)", x -> x.copy(0, 0, s, 0, 1));
            c.about("34 copy: BAD; NULL, the first that fits");
            bad("copy(" + s + ", 0, 3, 0, 1)", x -> x.copy(s, 0, 3, 0, 1));
            bad("copy(3, 0, " + s + ", 0, 1)", x -> x.copy(3, 0, s, 0, 1));
            c.about("34 copy: BAD; .. INDEX, the first that fits");
            bad("copy(" + s + ", -1, 0, -1, -1)", x -> x.copy(s, -1, 0, -1, -1));
            bad("copy(0, -1, " + s + ", -1, -1)", x -> x.copy(0, -1, s, -1, -1));
            c.about("34 copy: BAD: the SHEETS");
        }
        c.about("34 copy: NULL: s, t");
        finding("copy(3, 0, 0, 0, 1)", x -> x.copy(3, 0, 0, 0, 1), NULL);
        finding("copy(0, 0, 3, 0, 1)", x -> x.copy(0, 0, 3, 0, 1), NULL);
        finding("copy(3, 0, 3, 0, 0)", x -> x.copy(3, 0, 3, 0, 0), NULL);
        c.about("34 copy: NULL; STORE; INDEX, the first that fits");
        for (int s = 0; s < 3; s++) {
            int other = s;
            finding("copy(3, -1, " + s + ", -1, -1)", x -> x.copy(3, -1, other, -1, -1), NULL);
            finding("copy(" + s + ", 9, 3, 9, 9)", x -> x.copy(other, 9, 3, 9, 9), NULL);
        }
        c.about("34 copy: STORE");
        for (int s = 0; s < 3; s++) {
            for (int t = 0; t < 3; t++) {
                if (s != t) {
                    int from = s;
                    int to = t;
                    String pair = s + " to " + t;
                    finding("copy, " + pair, x -> x.copy(from, 0, to, 0, 1), STORE);
                    finding("copy of none, " + pair, x -> x.copy(from, 0, to, 0, 0), STORE);
                    finding("copy, STORE; INDEX, " + pair, x -> x.copy(from, -1, to, 0, 1), STORE);
                    finding("copy, STORE; INDEX, " + pair, x -> x.copy(from, 0, to, 0, 49), STORE);
                }
            }
        }
    }

    /** SHEET 0 has five items, SHEET 3 is made one of the same FORM with three. */
    private static MarketSpring two() {
        MarketSpring x = some();
        x.sheet(3, 0, 3);
        x.put(3, 0, 1, 99);
        return x;
    }

    private static void copyIndex() {
        int[][] wrong = {
            {-1, 0, 1}, {0, -1, 1}, {0, 0, -1}, {-1, 0, 0}, {0, -1, 0}, {LEAST, 0, 1}, {0, LEAST, 1}, {0, 0, LEAST},
            {5, 0, 1}, {4, 0, 2}, {3, 0, 3}, {0, 3, 1}, {0, 2, 2}, {0, 1, 3}, {0, 0, 4}, {0, 0, 6},
            {6, 0, 0}, {0, 4, 0}, {MOST, 0, 0}, {0, MOST, 0}, {MOST, 0, 1}, {0, MOST, 1}, {0, 0, MOST},
            {1, 1, MOST}, {MOST, MOST, MOST}, {MOST, 0, MOST}, {0, MOST, MOST}, {LEAST, LEAST, LEAST}};
        c.about("34 copy: INDEX: i, j or n below 0, not so many there (of n 0, too: i or j above the size)");
        for (int[] w : wrong) {
            String call = "copy(0, " + w[0] + ", 3, " + w[1] + ", " + w[2] + ")";
            refused(call, RefusalTest::two, x -> x.copy(0, w[0], 3, w[1], w[2]), -12, INDEX);
        }
        int[][] itself = {{0, 1, 5}, {1, 0, 5}, {5, 5, 1}, {6, 0, 0}, {0, 6, 0}, {0, 0, 6}, {-1, -1, 1}};
        for (int[] w : itself) {
            String call = "copy(0, " + w[0] + ", 0, " + w[1] + ", " + w[2] + ")";
            refused(call, RefusalTest::two, x -> x.copy(0, w[0], 0, w[1], w[2]), -12, INDEX);
        }
    }

    private static void write() {
        c.about("35 write: BAD");
        for (int hour : new int[] {-1, 240, LEAST, MOST}) {
            bad("write(" + hour + ", 0)", x -> x.write(hour, 0));
            c.about("35 write: BAD; NULL, the first that fits");
            bad("write(" + hour + ", 3)", x -> x.write(hour, 3));
            c.about("35 write: BAD");
        }
        for (int s : new int[] {-1, 4, LEAST, MOST}) {
            bad("write(0, " + s + ")", x -> x.write(0, s));
        }
        c.about("35 write: NULL");
        finding("write(0, 3)", x -> x.write(0, 3), NULL);
        finding("write(239, 3)", x -> x.write(239, 3), NULL);
    }

    private static void count() {
        c.about("36 count: BAD");
        for (int what : new int[] {-1, 9, LEAST, MOST}) {
            bad("count(" + what + ")", x -> x.count(what));
        }
    }

    /** What only asks leaves all as it was, BEST ('It changes nothing') among it. */
    private static void questionsChangeNothing() {
        c.about("BEST: It changes nothing");
        bad("best(1)", x -> x.best(1) >= 0 ? 0 : 1, 0);
        c.about("questions change nothing");
        MarketSpring x = found();
        MarketSpring twin = found();
        for (int days = 1; days <= 9; days++) {
            x.stood(0, days);
            x.lost(days);
            x.worst(days, 1);
            x.fewest(days);
            x.place(days, 0);
        }
        x.best(1);
        x.thief(0);
        x.robbed(0, 40, 239);
        x.digest();
        x.get(0, 0, 0);
        x.lasts();
        x.unlike();
        String unlike = State.difference(State.of(x), State.of(twin));
        c.holds("alike behind questions: " + unlike, unlike == null);
    }

    // ---- 'No call may ever throw', whatever the numbers are

    private static final int[] ANY = {LEAST, LEAST + 1, -10000, -2, -1, 0, 1, 2, 3, 5, 8, 23, 24, 47, 48, 49, 239,
        240, 1000, MOST - 1, MOST};
    private static final int[] FEW = {LEAST, -1, 0, 3, 48, MOST};

    private static void anyNumbers() {
        c.about("LANGUAGE 7: no call may ever throw, for any arguments in any state");
        for (Maker maker : new Maker[] {RefusalTest::empty, RefusalTest::two, RefusalTest::full}) {
            for (int a : ANY) {
                oneNumber(maker.make(), a);
                for (int b : ANY) {
                    twoNumbers(maker.make(), a, b);
                }
            }
            for (int a : FEW) {
                for (int b : FEW) {
                    manyNumbers(maker, a, b);
                }
            }
        }
        c.holds("none has thrown", true);
    }

    private static void oneNumber(MarketSpring x, int a) {
        x.type(a);
        x.handle(a);
        x.read(a);
        x.goes(a);
        x.toil(a);
        x.wound(a);
        x.lost(a);
        x.flow(a);
        x.fewest(a);
        x.best(a);
        x.thief(a);
        x.count(a);
        x.lose(a);
        x.digest();
    }

    private static void twoNumbers(MarketSpring x, int a, int b) {
        x.thing(a, b);
        x.group(a, b);
        x.level(a, b);
        x.stands(a, b);
        x.stood(a, b);
        x.worst(a, b);
        x.place(a, b);
        x.seen(a, b);
        x.write(a, b);
        x.set(a, b);
        x.shut(a, b);
        x.shift(a, b);
    }

    private static void manyNumbers(Maker maker, int a, int b) {
        MarketSpring x = maker.make();
        for (int d : FEW) {
            x.robbed(a, b, d);
            x.get(a, b, d);
            x.put(a, b, d, a);
            for (int e : FEW) {
                x.copy(a, b, d, e, 0);
                x.copy(0, a, 3, b, d);
                x.copy(a, b, 0, d, e);
            }
        }
        x.sheet(a, 1, b);
        x.sheet(0, a, b);
        x.digest();
    }
}
