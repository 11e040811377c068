/** Promises 1 to 11: the town, its settings, shuts and shifts. */
public final class TownTest {
    private static final Check c = new Check();

    public static void main(String[] args) {
        newObject();
        typeAndWipe();
        faultOfThings();
        faultOfHandles();
        faultOfGroups();
        faultBetweenParts();
        faultOfTooMany();
        faultIsAsEmpty();
        thing();
        handle();
        group();
        set();
        shut();
        shift();
        read();
        c.end();
    }

    private static void newObject() {
        MarketSpring x = new MarketSpring();
        for (int what = 0; what <= 8; what++) {
            c.due("1 new: count(" + what + ")", x.count(what), 0);
        }
        c.due("1 new: fault()", x.fault(), -1);
        for (int s = 0; s < 4; s++) {
            c.due("1 new: lose(" + s + ")", x.lose(s), -11);
        }
        int[] first = {1, 200, 100, 0, 3, 0, 0, 0, 0};
        for (int what = 0; what < 9; what++) {
            c.due("1 new: set(" + what + ", 1)", x.set(what, 1), first[what]);
        }
        for (int t = 0; t < 6; t++) {
            c.due("1 new: shut(" + t + ", 1)", x.shut(t, 1), 0);
            c.due("1 new: shift(" + t + ", 1)", x.shift(t, 1), 0);
        }
        c.due("1 new: wipe()", x.wipe(), 0);
        c.due("1 new: forget()", x.forget(), 0);
    }

    private static void typeAndWipe() {
        MarketSpring x = new MarketSpring();
        c.due("2 type(-1)", x.type(-1), -2);
        c.due("2 type(256)", x.type(256), -2);
        c.due("2 type(least)", x.type(Integer.MIN_VALUE), -2);
        c.due("2 type(0)", x.type(0), 1);
        c.due("2 type(255)", x.type(255), 2);
        for (int n = 3; n <= 100; n++) {
            c.due("2 type, byte " + n, x.type('t'), n);
        }
        c.due("2 type, byte 101", x.type('t'), -4);
        c.due("2 type(256) when full", x.type(256), -2);
        c.due("2 count(3) when full", x.count(3), 100);
        c.due("3 wipe()", x.wipe(), 100);
        c.due("3 count(3)", x.count(3), 0);
        c.due("3 fault()", x.fault(), -1);
        c.due("3 wipe() again", x.wipe(), 0);
        c.due("3 type behind it", x.type('h'), 1);

        MarketSpring y = Check.town("t100024;h1;g05071200");
        y.set(0, 9);
        y.shut(0, 1);
        y.shift(0, 5);
        y.seen(3, 90);
        y.sheet(1, 2, 7);
        c.due("3 wipe()", y.wipe(), 20);
        c.due("3 things", y.count(0), 0);
        c.due("3 handles", y.count(1), 0);
        c.due("3 groups", y.count(2), 0);
        c.due("3 level()", y.level(0, 0), 100);
        c.due("3 settings stay", y.set(0, 9), 9);
        c.due("3 shut stays", y.shut(0, 1), 1);
        c.due("3 shift stays", y.shift(0, 5), 5);
        c.due("3 seen stays", y.count(4), 1);
        c.due("3 sheets stay", y.lose(1), 7);

        MarketSpring z = Check.town("t100024!;h1;g05071200");
        c.due("3 level(9, 0)", z.level(9, 0), 0);
        z.wipe();
        c.due("3 level(9, 0) when wiped", z.level(9, 0), 100);
        z.type('t');
        c.due("3 no byte of before: fault()", z.fault(), 1);
        Check.typeAll(z, "200001");
        c.due("3 no ! of before: thing(0, 3)", z.thing(0, 3), 0);
        c.due("3 no ! of before: fault()", z.fault(), -1);
    }

    private static void fault(String text, int want) {
        c.due("4 fault() of " + text, Check.town(text).fault(), want);
    }

    private static void faultOfThings() {
        fault("", -1);
        fault("t010001", -1);
        fault("t402324", -1);
        fault("t402324!", -1);
        fault("t", 1);
        fault("t0", 2);
        fault("t9", 2);
        fault("tx", 1);
        fault("t9x", 2);
        fault("t00", 1);
        fault("t41", 1);
        fault("t99", 1);
        fault("t01", 3);
        fault("t012", 4);
        fault("t0124", 3);
        fault("t0123", 5);
        fault("t01230", 6);
        fault("t012300", 5);
        fault("t012325", 5);
        fault("t0123!4", 5);
        fault("t012324!!", 8);
        fault("t0123240", 7);
        fault("t01232/", 6);
        fault("t01232:", 6);
        fault("T010001", 0);
    }

    private static void faultOfHandles() {
        fault("h0", -1);
        fault("h8", -1);
        fault("h", 1);
        fault("h9", 1);
        fault("hx", 1);
        fault("h00", 2);
        fault("h1!", 2);
        fault("h1;h2;h1", 7);
        fault("h0;h1;h2;h3;h4;h5;h6;h7;h8", -1);
        fault("h0;h1;h2;h3;h4;h5;h6;h7;h8;h", 28);
        fault("h0;h1;h2;h3;h4;h5;h6;h7;h8;h8", 28);
    }

    private static void faultOfGroups() {
        fault("g01000100", -1);
        fault("g99238099", -1);
        fault("g", 1);
        fault("g00", 1);
        fault("g0x", 2);
        fault("g0124", 3);
        fault("g0123", 5);
        fault("g01239", 5);
        fault("g01238", 6);
        fault("g012389", 6);
        fault("g012388", 6);
        fault("g012300", 6);
        fault("g012387", 7);
        fault("g0123871", 8);
        fault("g012387x", 7);
        fault("g0123871x", 8);
        fault("g01238719", -1);
        fault("g01237819", -1);
        fault("g01238719!", 9);
        fault("g012387190", 9);
    }

    private static void faultBetweenParts() {
        fault(";", 0);
        fault("h1;", 3);
        fault("h1;;h2", 3);
        fault("h1,h2", 2);
        fault("h1h2", 2);
        fault("t010001!;h1;g01000100", -1);
        fault("g01000100;h1;t010001!;h2", -1);
        fault("h1;x", 3);
        fault("h1;" + (char) 255, 3);
        fault("h1" + (char) 0, 2);
        // a byte that comes later mends an end that was missing, but no other fault
        MarketSpring x = Check.town("h");
        c.due("4 fault() of h", x.fault(), 1);
        x.type('5');
        c.due("4 fault() of h5", x.fault(), -1);
        x.type(';');
        c.due("4 fault() of h5;", x.fault(), 3);
        x.type('h');
        x.type('5');
        c.due("4 fault() of h5;h5", x.fault(), 4);
        x.type(';');
        c.due("4 fault() of h5;h5;", x.fault(), 4);
    }

    private static void faultOfTooMany() {
        String six = "t010001;t010001!;t010001;t010001;t010001;t010001";
        fault(six, -1);
        fault(six + ";t", 49);
        fault(six + ";t010001", 49);
        fault(six + ";h1", -1);
        String eight = "g01000100;g01000100;g01000100;g01000100;g01000100;g01000100;g01000100;g01000100";
        fault(eight, -1);
        fault(eight + ";g", 80);
        fault(eight + ";g01000100", 80);
        fault(eight + ";h1;t010001", -1);
    }

    private static void faultIsAsEmpty() {
        MarketSpring x = Check.town("t100024!;h1;g05071200;");
        c.due("4 fault()", x.fault(), 22);
        int[] counts = {0, 0, 0, 22, 0, 0, 0, 0};
        for (int what = 0; what < 8; what++) {
            c.due("4 with a fault count(" + what + ")", x.count(what), counts[what]);
        }
        c.due("4 with a fault thing(0, 0)", x.thing(0, 0), -2);
        c.due("4 with a fault group(0, 0)", x.group(0, 0), -2);
        c.due("4 with a fault handle(1)", x.handle(1), 0);
        c.due("4 with a fault level(9, 0)", x.level(9, 0), 100);
        c.due("4 with a fault toil(0)", x.toil(0), 0);
        Check.typeAll(x, "h2");
        c.due("4 mended: things", x.count(0), 1);
        c.due("4 mended: handles", x.count(1), 2);
        c.due("4 mended: level(9, 0)", x.level(9, 0), 5);
    }

    private static void thing() {
        MarketSpring x = Check.town("t051907!;t402324;t010001");
        int[][] due = {{5, 19, 7, 1, 0, 0}, {40, 23, 24, 0, 1, 23}, {1, 0, 1, 0, 0, 2}};
        x.shut(1, 1);
        x.shift(1, 23);
        x.shift(2, 2);
        for (int t = 0; t < 3; t++) {
            for (int what = 0; what < 6; what++) {
                c.due("5 thing(" + t + ", " + what + ")", x.thing(t, what), due[t][what]);
            }
        }
        c.due("5 thing(3, 0)", x.thing(3, 0), -2);
        c.due("5 thing(3, 5)", x.thing(3, 5), -2);
        c.due("5 thing(-1, 0)", x.thing(-1, 0), -2);
        c.due("5 thing(0, 6)", x.thing(0, 6), -2);
        c.due("5 thing(0, -1)", x.thing(0, -1), -2);
        c.due("5 thing(greatest)", x.thing(Integer.MAX_VALUE, 0), -2);
        c.due("5 thing(0, greatest)", x.thing(0, Integer.MAX_VALUE), -2);
    }

    private static void handle() {
        MarketSpring x = Check.town("h0;h8;h3");
        for (int s = 0; s < 9; s++) {
            c.due("6 handle(" + s + ")", x.handle(s), s == 0 || s == 3 || s == 8 ? 1 : 0);
        }
        c.due("6 handle(-1)", x.handle(-1), -2);
        c.due("6 handle(9)", x.handle(9), -2);
        c.due("6 handle(32)", x.handle(32), -2);
    }

    private static void group() {
        MarketSpring x = Check.town("g12233456;g98008709");
        int[][] due = {{12, 23, 3, 4, 5, 6}, {98, 0, 8, 7, 0, 9}};
        for (int g = 0; g < 2; g++) {
            for (int what = 0; what < 6; what++) {
                c.due("7 group(" + g + ", " + what + ")", x.group(g, what), due[g][what]);
            }
        }
        c.due("7 group(2, 0)", x.group(2, 0), -2);
        c.due("7 group(-1, 0)", x.group(-1, 0), -2);
        c.due("7 group(0, 6)", x.group(0, 6), -2);
        c.due("7 group(0, -1)", x.group(0, -1), -2);
    }

    private static void set() {
        int[] least = {1, 1, 0, 0, 0, 0, 0, 0, 0};
        int[] most = {9, 999, 999, 99, 9, 1, 99, 999, 99};
        int[] first = {1, 200, 100, 0, 3, 0, 0, 0, 0};
        MarketSpring x = new MarketSpring();
        for (int what = 0; what < 9; what++) {
            c.due("8 set(" + what + ", below)", x.set(what, least[what] - 1), -5);
            c.due("8 set(" + what + ", above)", x.set(what, most[what] + 1), -5);
            c.due("8 set(" + what + ", most)", x.set(what, most[what]), first[what]);
            c.due("8 set(" + what + ", least)", x.set(what, least[what]), most[what]);
            c.due("8 set(" + what + ", least) again", x.set(what, least[what]), least[what]);
        }
        c.due("8 set(-1, 1)", x.set(-1, 1), -5);
        c.due("8 set(9, 1)", x.set(9, 1), -5);
        c.due("8 set(greatest, 1)", x.set(Integer.MAX_VALUE, 1), -5);
    }

    private static void shut() {
        MarketSpring x = Check.town("t200024");
        c.due("9 level(0, 0)", x.level(0, 0), 80);
        c.due("9 shut(0, 1)", x.shut(0, 1), 0);
        c.due("9 level(0, 0) when shut", x.level(0, 0), 100);
        c.due("9 stood when shut", x.stood(0, 9), 0);
        c.due("9 shut(0, 1) again", x.shut(0, 1), 1);
        c.due("9 shut(0, 0)", x.shut(0, 0), 1);
        c.due("9 shut(0, 0) again", x.shut(0, 0), 0);
        c.due("9 level(0, 0) when open", x.level(0, 0), 80);
        c.due("9 shut(5, 1), not there", x.shut(5, 1), 0);
        c.due("9 shut(5, 1) again", x.shut(5, 1), 1);
        c.due("9 thing(0, 4)", x.thing(0, 4), 0);
        c.due("9 shut(6, 1)", x.shut(6, 1), -2);
        c.due("9 shut(-1, 1)", x.shut(-1, 1), -2);
        c.due("9 shut(0, 2)", x.shut(0, 2), -2);
        c.due("9 shut(0, -1)", x.shut(0, -1), -2);
    }

    private static void shift() {
        MarketSpring x = Check.town("t102202");
        c.due("10 level(21, 0)", x.level(21, 0), 100);
        c.due("10 level(22, 0)", x.level(22, 0), 90);
        c.due("10 level(23, 0)", x.level(23, 0), 80);
        c.due("10 level(24, 0)", x.level(24, 0), 80);
        c.due("10 shift(0, 1)", x.shift(0, 1), 0);
        c.due("10 round the clock: level(0, 0)", x.level(0, 0), 90);
        c.due("10 round the clock: level(22, 0)", x.level(22, 0), 90);
        c.due("10 round the clock: level(24, 0)", x.level(24, 0), 70);
        c.due("10 shift(0, 23)", x.shift(0, 23), 1);
        c.due("10 level(20, 0)", x.level(20, 0), 100);
        c.due("10 level(21, 0)", x.level(21, 0), 90);
        c.due("10 level(23, 0)", x.level(23, 0), 80);
        c.due("10 shift(0, 24)", x.shift(0, 24), -2);
        c.due("10 shift(0, -1)", x.shift(0, -1), -2);
        c.due("10 shift(-1, 0)", x.shift(-1, 0), -2);
        c.due("10 shift(6, 0)", x.shift(6, 0), -2);
        c.due("10 shift(5, 7), not there", x.shift(5, 7), 0);
        c.due("10 shift(5, 7) again", x.shift(5, 7), 7);
        c.due("10 shift(0, 0)", x.shift(0, 0), 23);
    }

    private static void read() {
        MarketSpring x = Check.town("t102202");
        c.due("11 read(-1)", x.read(-1), -2);
        c.due("11 read(4)", x.read(4), -2);
        c.due("11 count(8) behind BAD", x.count(8), 0);
        c.due("11 read(3), lost", x.read(3), -11);
        c.due("11 count(8)", x.count(8), 1);
        x.sheet(3, 1, 0);
        c.due("11 read(3), no items", x.read(3), 0);
        x.sheet(3, 1, 8);
        for (int i = 0; i < 8; i++) {
            x.put(3, 1, i, 23 - i);
        }
        c.due("11 read(3), six at most", x.read(3), 6);
        for (int t = 0; t < 6; t++) {
            c.due("11 shift of " + t, x.shift(t, 9), 23 - t);
        }
        x.put(3, 1, 0, 0);
        x.put(3, 1, 1, 24);
        c.due("11 read(3), up to 24", x.read(3), 1);
        c.due("11 shift of 0", x.shift(0, 0), 0);
        c.due("11 shift of 1", x.shift(1, 9), 9);
        x.put(3, 1, 0, -1);
        c.due("11 read(3), up to -1", x.read(3), 0);
        c.due("11 level(23, 0)", x.level(23, 0), 80);
        x.put(3, 1, 0, 2);
        c.due("11 read(3) once more", x.read(3), 1);
        c.due("11 level(23, 0) then", x.level(23, 0), 80);
        c.due("11 level(0, 0) then", x.level(0, 0), 90);
        x.sheet(2, 0, 3);
        x.put(2, 0, 1, 5);
        c.due("11 read(2), shorter than six", x.read(2), 3);
        c.due("11 shift of 1", x.shift(1, 0), 5);
        c.due("11 shift of 3 stays", x.shift(3, 0), 9);
    }
}
