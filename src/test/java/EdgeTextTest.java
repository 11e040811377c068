/** THE TOWN's bounds: every sentence on its text and its FAULT, with promises 2 to 7 and 9 to 11. */
public final class EdgeTextTest {
    /** Eight groups in 79 bytes. */
    private static final String EIGHT = "g01000100;g02010100;g03020100;g04030100;g05040100;g06050100;g07060100;"
        + "g08070100";
    /** Six things in 47 bytes. */
    private static final String SIX = "t010001;t020102;t030203;t040304;t050405;t060506";
    private static final Check c = new Check();

    public static void main(String[] args) {
        aHundredBytes();
        whatIsTyped();
        wiped();
        partsWithBetween();
        sixFigures();
        perhapsMust();
        sixThings();
        needs();
        hoursFrom();
        howManyHours();
        handles();
        handleNotTwice();
        groupFigures();
        eightGroups();
        people();
        groupHours();
        streets();
        howLong();
        notEnded();
        bothFigures();
        firstOfTwoFaults();
        oneTooMany();
        asIfEmpty();
        shutThereOrNot();
        shiftThereOrNot();
        readUpTo();
        c.end();
    }

    private static void fault(String text, int want) {
        c.due("fault() of " + text, Check.town(text).fault(), want);
    }

    private static String two(int v) {
        return (v < 10 ? "0" : "") + v;
    }

    // ---- the text

    private static void aHundredBytes() {
        c.about("THE TOWN is a text of up to 100 bytes");
        String text = EIGHT + ";t090812!;t110503!;h1";
        MarketSpring x = Check.town(text.substring(0, 99));
        c.due("fault() of 99 bytes, its end", x.fault(), 99);
        c.due("things of 99 bytes", x.count(0), 0);
        c.due("byte 100", x.type('1'), 100);
        c.due("fault() of 100 bytes", x.fault(), -1);
        c.due("groups of 100 bytes", x.count(2), 8);
        c.due("things of 100 bytes", x.count(0), 2);
        c.due("handles of 100 bytes", x.count(1), 1);
        c.due("byte 101", x.type(';'), -4);
        c.due("fault() behind byte 101", x.fault(), -1);
        c.due("bytes behind byte 101", x.count(3), 100);
        c.due("wipe() of 100 bytes", x.wipe(), 100);
        c.due("type() behind it", x.type('h'), 1);
        fault(EIGHT + ";t090812!;t110503;h1;", 100);
        fault(EIGHT + ";t090812!;t110503!;h9", 99);
        fault(EIGHT + ";t090812!;t110503!;h", 99);
    }

    private static void whatIsTyped() {
        c.about("2 A byte (0 to 255) comes behind THE TOWN: how many");
        for (int b = 0; b <= 255; b++) {
            MarketSpring x = new MarketSpring();
            c.due("type(" + b + ")", x.type(b), 1);
            c.due("type(" + b + ") again", x.type(b), 2);
        }
        MarketSpring x = new MarketSpring();
        for (int n = 1; n <= 100; n++) {
            c.due("byte " + n, x.type(n % 2 * 255), n);
            c.due("count(3)", x.count(3), n);
        }
        c.due("a byte that was refused: type(256)", x.type(256), -2);
        x.wipe();
        x.type('h');
        c.due("type(-1)", x.type(-1), -2);
        c.due("type(256 + '1')", x.type(256 + '1'), -2);
        c.due("type('1')", x.type('1'), 2);
        c.due("handles", x.count(1), 1);
    }

    private static void wiped() {
        c.about("3 THE TOWN is empty: how many bytes it had");
        MarketSpring x = new MarketSpring();
        c.due("wipe() of none", x.wipe(), 0);
        for (int n = 0; n <= 100; n += 20) {
            for (int i = 0; i < n; i++) {
                x.type('h');
            }
            c.due("wipe() of " + n, x.wipe(), n);
            c.due("wipe() again", x.wipe(), 0);
            c.due("fault()", x.fault(), -1);
        }
    }

    private static void partsWithBetween() {
        c.about("parts with ; between them");
        fault(";", 0);
        fault(";h1", 0);
        fault("h1;;h2", 3);
        fault("h1;", 3);
        fault("h1;h2;", 6);
        fault("h1h2", 2);
        fault("h1t010001", 2);
        fault("h1g01000100", 2);
        fault("t010001h1", 7);
        fault("t010001!h1", 8);
        fault("g01000100h1", 9);
        for (int b = 0; b <= 255; b++) {
            char sign = (char) b;
            fault("h1" + sign, b == ';' ? 3 : 2);
            fault("h1" + sign + "h2", b == ';' ? -1 : 2);
            fault("g01000100" + sign, b == ';' ? 10 : 9);
            boolean part = b == 't' || b == 'h' || b == 'g';
            fault("" + sign, part ? 1 : 0);
            fault("h1;" + sign, part ? 4 : 3);
        }
        c.about("an empty text is well");
        fault("", -1);
    }

    /** Every byte that is no figure, at every place of a part that is well without it. */
    private static void onlyFigures(String part) {
        for (int at = 1; at < part.length(); at++) {
            for (int b = 0; b <= 255; b++) {
                if (b < '0' || b > '9') {
                    fault(part.substring(0, at) + (char) b + part.substring(at + 1), at);
                }
            }
        }
        fault(part, -1);
    }

    private static void sixFigures() {
        c.about("t and six figures: the first byte with which it cannot go on");
        onlyFigures("t111111");
        fault("t1111111", 7);
    }

    private static void perhapsMust() {
        c.about("perhaps !; with ! it MUST");
        for (int b = 0; b <= 255; b++) {
            char sign = (char) b;
            fault("t010001" + sign, b == '!' ? -1 : b == ';' ? 8 : 7);
            fault("t010001!" + sign, b == ';' ? 9 : 8);
        }
        c.due("thing(0, 3) with it", Check.town("t010001!").thing(0, 3), 1);
        c.due("thing(0, 3) without", Check.town("t010001").thing(0, 3), 0);
        MarketSpring x = Check.town("t010001");
        c.due("MUST ahead of it", x.count(6), 0);
        x.type('!');
        c.due("MUST behind it", x.count(6), 1);
        fault("h1!", 2);
        fault("g01000100!", 9);
        fault("!", 0);
    }

    private static void sixThings() {
        c.about("a THING more (6 at most; 0 on, in the order in which they draw)");
        MarketSpring x = Check.town(SIX);
        c.due("fault()", x.fault(), -1);
        c.due("things", x.count(0), 6);
        for (int t = 0; t < 6; t++) {
            c.due("NEED of " + t, x.thing(t, 0), t + 1);
            c.due("hour of " + t, x.thing(t, 1), t);
            c.due("how many of " + t, x.thing(t, 2), t + 1);
        }
        c.due("thing(6, 0)", x.thing(6, 0), -2);
        // 30, then 20, then 10 of 40: the last one draws what the second one could not
        MarketSpring order = Check.town("t300001;t200001;t100001");
        order.set(2, 40);
        c.due("first", order.stands(0, 0), 0);
        c.due("second", order.stands(1, 0), 1);
        c.due("third", order.stands(2, 0), 0);
        order.wipe();
        Check.typeAll(order, "t100001;t200001;t300001");
        c.due("as told: first", order.stands(0, 0), 0);
        c.due("as told: second", order.stands(1, 0), 0);
        c.due("as told: third", order.stands(2, 0), 1);
    }

    // ---- numbers of a thing

    private static void needs() {
        c.about("NEED (01 to 40)");
        for (int v = 0; v <= 99; v++) {
            boolean may = v >= 1 && v <= 40;
            MarketSpring x = Check.town("t" + two(v) + "0001");
            c.due("fault() of NEED " + v, x.fault(), may ? -1 : 1);
            c.due("thing(0, 0)", x.thing(0, 0), may ? v : -2);
            c.due("level(0, 0)", x.level(0, 0), may ? 100 - v : 100);
        }
    }

    private static void hoursFrom() {
        c.about("the hour from which it goes (00 to 23)");
        for (int v = 0; v <= 99; v++) {
            MarketSpring x = Check.town("t01" + two(v) + "01");
            c.due("fault() of hour " + v, x.fault(), v <= 23 ? -1 : 3);
            c.due("thing(0, 1)", x.thing(0, 1), v <= 23 ? v : -2);
        }
    }

    private static void howManyHours() {
        c.about("how many hours (01 to 24)");
        for (int v = 0; v <= 99; v++) {
            boolean may = v >= 1 && v <= 24;
            MarketSpring x = Check.town("t0100" + two(v));
            c.due("fault() of hours " + v, x.fault(), may ? -1 : 5);
            c.due("thing(0, 2)", x.thing(0, 2), may ? v : -2);
            c.due("level(23, 0)", x.level(23, 0), may ? 100 - v : 100);
        }
    }

    // ---- handles

    private static void handles() {
        c.about("h and a figure (0 to 8): a HANDLE in that STREET");
        onlyFigures("h1");
        fault("h9", 1);
        fault("h1;h9", 4);
        fault("h11", 2);
        for (int street = 0; street <= 8; street++) {
            MarketSpring x = Check.town("h" + street);
            c.due("fault() of h" + street, x.fault(), -1);
            for (int other = 0; other <= 8; other++) {
                c.due("h" + street + ": handle(" + other + ")", x.handle(other), other == street ? 1 : 0);
            }
        }
        MarketSpring all = Check.town("h8;h7;h6;h5;h4;h3;h2;h1;h0");
        c.due("all: fault()", all.fault(), -1);
        c.due("all: handles", all.count(1), 9);
        c.due("handle(9)", all.handle(9), -2);
        c.due("handle(-1)", all.handle(-1), -2);
    }

    private static void handleNotTwice() {
        c.about("a HANDLE in that STREET (not twice): of a HANDLE's STREET that has one");
        for (int street = 0; street <= 8; street++) {
            fault("h" + street + ";h" + street, 4);
            fault("h" + street + ";t010001;h" + street, 12);
            fault("h" + street + ";h" + (street + 1) % 9 + ";h" + street + ";x", 7);
        }
        fault("h0;h1;h2;h3;h4;h5;h6;h7;h8;h0", 28);
        fault("h0;h1;h2;h3;h4;h5;h6;h7;h8;h9", 28);
        fault("h0;h1;h2;h3;h4;h5;h6;h7;h8;h", 28);
    }

    // ---- groups

    private static void groupFigures() {
        c.about("g, four figures, two figures, two figures");
        onlyFigures("g11112334");
        fault("g111123344", 9);
    }

    private static void eightGroups() {
        c.about("a GROUP more (8 at most)");
        MarketSpring x = Check.town(EIGHT);
        c.due("fault()", x.fault(), -1);
        c.due("groups", x.count(2), 8);
        for (int g = 0; g < 8; g++) {
            c.due("people of " + g, x.group(g, 0), g + 1);
            c.due("hour of " + g, x.group(g, 1), g);
        }
        c.due("group(8, 0)", x.group(8, 0), -2);
        c.due("goes(7)", x.goes(7), 0);
        c.due("goes(8)", x.goes(8), -2);
    }

    private static void people() {
        c.about("how many (01 to 99)");
        for (int v = 0; v <= 99; v++) {
            MarketSpring x = Check.town("g" + two(v) + "000100");
            c.due("fault() of people " + v, x.fault(), v >= 1 ? -1 : 1);
            c.due("group(0, 0)", x.group(0, 0), v >= 1 ? v : -2);
            c.due("count(5)", x.count(5), v);
        }
    }

    private static void groupHours() {
        c.about("its hour (00 to 23)");
        for (int v = 0; v <= 99; v++) {
            MarketSpring x = Check.town("g01" + two(v) + "0100");
            c.due("fault() of hour " + v, x.fault(), v <= 23 ? -1 : 3);
            c.due("group(0, 1)", x.group(0, 1), v <= 23 ? v : -2);
        }
    }

    private static void streets() {
        c.about("two STREETS (0 to 8; not one): of the second STREET, if it is the first one");
        for (int first = 0; first <= 9; first++) {
            for (int second = 0; second <= 9; second++) {
                int want = first == 9 ? 5 : second == 9 || second == first ? 6 : -1;
                MarketSpring x = Check.town("g0100" + first + second + "00");
                c.due("fault() of streets " + first + second, x.fault(), want);
                c.due("group(0, 2)", x.group(0, 2), want == -1 ? first : -2);
                c.due("group(0, 3)", x.group(0, 3), want == -1 ? second : -2);
                // seen at once, though the part is not ended
                fault("g0100" + first + second, want == -1 ? 7 : want);
            }
        }
    }

    private static void howLong() {
        c.about("how LONG each is (0 to 9)");
        for (int first = 0; first <= 9; first++) {
            for (int second = 0; second <= 9; second++) {
                MarketSpring x = Check.town("g010001" + first + second);
                c.due("fault() of LONG " + first + second, x.fault(), -1);
                c.due("group(0, 4)", x.group(0, 4), first);
                c.due("group(0, 5)", x.group(0, 5), second);
                c.due("goes(0)", x.goes(0), second < first ? 1 : 0);
            }
        }
    }

    // ---- faults

    private static void notEnded() {
        c.about("of one that is not ended, its end");
        String text = "t051907!;h3;g12233456;t010001;h0";
        for (int n = 0; n <= text.length(); n++) {
            boolean ended = n == 0 || n == 7 || n == 8 || n == 11 || n == 21 || n == 29 || n == 32;
            fault(text.substring(0, n), ended ? -1 : n);
        }
    }

    private static void bothFigures() {
        c.about("of the first figure of a number (of two figures: looked at when both are there)");
        String[] ahead = {"t", "t01", "t0100", "g", "g01"};
        String[] wrong = {"41", "24", "25", "00", "24"};
        String[] alsoWrong = {"99", "99", "99", "00", "99"};
        for (int k = 0; k < ahead.length; k++) {
            int at = ahead[k].length();
            for (String number : new String[] {wrong[k], alsoWrong[k]}) {
                fault(ahead[k] + number.charAt(0), at + 1);
                fault(ahead[k] + number.charAt(0) + "x", at + 1);
                fault(ahead[k] + number.charAt(0) + ";", at + 1);
                fault(ahead[k] + number, at);
                fault(ahead[k] + number + "x", at);
            }
        }
        fault("t00", 1);
        fault("t010000", 5);
        c.about("of the first figure of a number that may not be");
        fault("h9", 1);
        fault("g01009", 5);
        fault("g010009", 6);
    }

    private static void firstOfTwoFaults() {
        c.about("The FAULT is the place of the first byte");
        fault("t00;t00", 1);
        fault("t0x;h9", 2);
        fault("t012400", 3);
        fault("t002400", 1);
        fault("t012300!!", 5);
        fault("h9x", 1);
        fault("h1;h1;h9", 4);
        fault("h1;x;h1", 3);
        fault("g00249900", 1);
        fault("g01249900", 3);
        fault("g01239900", 5);
        fault("g01238800", 6);
        fault("g0123888x", 6);
        fault(SIX + ";h9;t010001", 49);
        fault(SIX + ";t010001;h9", 48);
        MarketSpring x = Check.town("h9");
        Check.typeAll(x, ";h1;t010001;g01000100");
        c.due("no later byte mends it", x.fault(), 1);
    }

    private static void oneTooMany() {
        c.about("of the first byte of a part that is one too many");
        for (String more : new String[] {"t", "t0", "t00", "tx", "t010001", "t010001!;h1"}) {
            fault(SIX + ";" + more, 48);
            fault("h1;" + SIX + ";h2;" + more, 54);
        }
        for (String more : new String[] {"g", "g0", "g00", "gx", "g01000100", "g01000100;h1"}) {
            fault(EIGHT + ";" + more, 80);
            fault(EIGHT + ";h2;" + more, 83);
        }
        fault(SIX + ";h1;g01000100", -1);
        fault(EIGHT + ";h1;t010001", -1);
        MarketSpring x = Check.town(SIX + ";t");
        c.due("things, with one too many", x.count(0), 0);
        c.due("its bytes", x.wipe(), 49);
        Check.typeAll(x, SIX);
        c.due("six, behind it", x.fault(), -1);
    }

    private static void prepare(MarketSpring x) {
        x.set(2, 50);
        x.set(6, 9);
        x.shut(0, 1);
        x.shift(1, 5);
        x.seen(3, 30);
        x.sheet(1, 1, 2);
    }

    private static void asIfEmpty() {
        c.about("With a FAULT it is as if it was empty");
        String[] texts = {"t100024!;t100024;h1;g05071200;", "t100024;h1;g05071200;h1", ";", "h1;t010001;t",
            SIX + ";h1;t010001", "g05071200;h0;h1;x"};
        for (String text : texts) {
            MarketSpring x = Check.town(text);
            MarketSpring none = new MarketSpring();
            prepare(x);
            prepare(none);
            c.holds(text + " has a fault", x.fault() != -1);
            c.due("count(3) of " + text, x.count(3), text.length());
            String unlike = State.difference(State.of(x), State.of(none), "count(3)", "fault()", "digest()", "wipe()");
            c.holds(text + " is as if it was empty: " + unlike, unlike == null);
        }
        MarketSpring mended = Check.town("t100024!;h1;g05071200;");
        c.due("things of it", mended.count(0), 0);
        Check.typeAll(mended, "h2");
        c.due("things when it goes on", mended.count(0), 1);
        c.due("handles when it goes on", mended.count(1), 2);
        c.due("groups when it goes on", mended.count(2), 1);
    }

    // ---- what stays with a THING's number

    private static void shutThereOrNot() {
        c.about("9 A THING (0 to 5, whether it is there or not) is SHUT (1), or not (0): what it was");
        MarketSpring x = new MarketSpring();
        for (int t = 0; t <= 5; t++) {
            c.due("shut(" + t + ", 0)", x.shut(t, 0), 0);
            c.due("shut(" + t + ", 1)", x.shut(t, 1), 0);
            c.due("shut(" + t + ", 1) again", x.shut(t, 1), 1);
        }
        c.due("shut(6, 1)", x.shut(6, 1), -2);
        c.due("shut(-1, 1)", x.shut(-1, 1), -2);
        Check.typeAll(x, SIX);
        for (int t = 0; t <= 5; t++) {
            c.due("thing(" + t + ", 4)", x.thing(t, 4), 1);
        }
        c.due("none goes", x.level(239, 0), 100);
        for (int t = 0; t <= 5; t++) {
            c.due("shut(" + t + ", 0)", x.shut(t, 0), 1);
            c.due("thing(" + t + ", 4)", x.thing(t, 4), 0);
            c.due("the next one", x.thing(5, 4), t < 5 ? 1 : 0);
        }
        c.due("all go", x.level(5, 0), 100 - 1 - 2 * 2 - 3 * 3 - 4 * 3 - 5 * 2 - 6);
    }

    private static void shiftThereOrNot() {
        c.about("10 The SHIFT of a THING (0 to 5; 0 to 23): what it was");
        MarketSpring x = new MarketSpring();
        for (int t = 0; t <= 5; t++) {
            c.due("shift(" + t + ", 23)", x.shift(t, 23), 0);
            c.due("shift(" + t + ", 0)", x.shift(t, 0), 23);
            c.due("shift(" + t + ", " + (t + 10) + ")", x.shift(t, t + 10), 0);
            c.due("shift(" + t + ", 24)", x.shift(t, 24), -2);
            c.due("shift(" + t + ", -1)", x.shift(t, -1), -2);
        }
        c.due("shift(6, 0)", x.shift(6, 0), -2);
        c.due("shift(-1, 0)", x.shift(-1, 0), -2);
        Check.typeAll(x, SIX);
        for (int t = 0; t <= 5; t++) {
            c.due("thing(" + t + ", 5)", x.thing(t, 5), t + 10);
        }
    }

    private static MarketSpring withSheet(int form, int... items) {
        MarketSpring x = Check.town(SIX);
        for (int t = 0; t < 6; t++) {
            x.shift(t, 9);
        }
        x.sheet(2, form, items.length);
        for (int i = 0; i < items.length; i++) {
            x.put(2, form, i, items[i]);
        }
        return x;
    }

    private static void readUpTo() {
        c.about("11 up to the first that is not 0 to 23, six at most: how many");
        int[][] rows = {{}, {0}, {23}, {24}, {-1}, {0, 23, 24, 5}, {5, -1, 5}, {1, 2, 3, 4, 5}, {1, 2, 3, 4, 5, 6},
            {1, 2, 3, 4, 5, 24}, {1, 2, 3, 4, 5, 6, 7}, {1, 2, 3, 4, 5, 6, 24}, {127, 1}, {0, 0, 0, 0, 0, 0, 0, 0}};
        int[] many = {0, 1, 1, 0, 0, 2, 1, 5, 6, 5, 6, 6, 0, 6};
        for (int form = 0; form < 3; form++) {
            for (int k = 0; k < rows.length; k++) {
                MarketSpring x = withSheet(form, rows[k]);
                c.due("read(), row " + k, x.read(2), many[k]);
                for (int t = 0; t < 6; t++) {
                    c.due("row " + k + ": shift of " + t, x.thing(t, 5), t < many[k] ? rows[k][t] : 9);
                }
                c.due("no finding", x.count(8), 0);
            }
        }
        c.due("a byte of 256 is 0", withSheet(0, 256).read(2), 1);
        c.due("a short of 256 is none", withSheet(1, 256).read(2), 0);
        c.due("a short of 65536 is 0", withSheet(1, 65536).read(2), 1);
        c.due("an int of 65536 is none", withSheet(2, 65536).read(2), 0);
    }
}
