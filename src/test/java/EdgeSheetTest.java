import java.util.ArrayList;
import java.util.List;

/** The bounds of SHEETS, FINDINGS, counts and the digest, promises 1 and 30 to 37: a method for each sentence. */
public final class EdgeSheetTest {
    private static final int LEAST = Integer.MIN_VALUE;
    private static final int MOST = Integer.MAX_VALUE;
    private static final Check c = new Check();

    public static void main(String[] args) {
        aNewObject();
        lostAtFirst();
        sizes();
        itemsAtFirst();
        aNewRow();
        lost();
        firstAndLastItem();
        lowestBits();
        lowestBitsByWrite();
        gotten();
        copiedAll();
        copiedOntoItself();
        copiedNone();
        copiedBits();
        writtenTo239();
        findings();
        counts();
        countsWithFault();
        digestOfNone();
        digestInOrder();
        digestWraps();
        c.end();
    }

    private static void aNewObject() {
        c.about("1 An empty TOWN; all SHEETS are LOST");
        MarketSpring x = new MarketSpring();
        for (int what = 0; what <= 8; what++) {
            c.due("count(" + what + ")", x.count(what), 0);
        }
        c.due("fault()", x.fault(), -1);
        c.due("thing(0, 0)", x.thing(0, 0), -2);
        c.due("group(0, 0)", x.group(0, 0), -2);
        for (int street = 0; street <= 8; street++) {
            c.due("handle(" + street + ")", x.handle(street), 0);
        }
        c.due("wipe()", x.wipe(), 0);
        MarketSpring one = new MarketSpring();
        one.type('h');
        one.sheet(0, 0, 1);
        one.set(2, 5);
        c.due("another one has its own text", x.count(3), 0);
        c.due("another one has its own SHEETS", x.lose(0), -11);
        c.due("another one has its own settings", x.set(2, 5), 100);
    }

    private static void lostAtFirst() {
        c.about("SHEETS 0 .. 3 are LOST (at first)");
        for (int s = 0; s <= 3; s++) {
            MarketSpring x = new MarketSpring();
            c.due("lose(" + s + ")", x.lose(s), -11);
            c.due("read(" + s + ")", x.read(s), -11);
            c.due("write(0, " + s + ")", x.write(0, s), -11);
            for (int form = 0; form < 3; form++) {
                c.due("put(" + s + ", ..)", x.put(s, form, 0, 1), -11);
                c.due("get(" + s + ", ..)", x.get(s, form, 0), LEAST);
            }
            c.due("copy(" + s + ", ..)", x.copy(s, 0, s, 0, 0), -11);
            c.due("count(8)", x.count(8), 1);
        }
        MarketSpring x = new MarketSpring();
        c.due("lose(-1)", x.lose(-1), -2);
        c.due("lose(4)", x.lose(4), -2);
        c.due("count(8)", x.count(8), 0);
    }

    private static void sizes() {
        c.about("30 of 0 to 48 items; above 48; SIZE: below 0");
        for (int s = 0; s <= 3; s++) {
            for (int form = 0; form < 3; form++) {
                MarketSpring x = new MarketSpring();
                for (int n : new int[] {0, 1, 47, 48}) {
                    c.due("sheet(" + s + ", " + form + ", " + n + ")", x.sheet(s, form, n), n);
                    c.due("lose(" + s + ")", x.lose(s), n);
                }
                c.due("49 items", x.sheet(s, form, 49), -2);
                c.due("no finding", x.count(8), 0);
                c.due("-1 items", x.sheet(s, form, -1), -15);
                c.due("a finding", x.count(8), 5);
                c.due("it is LOST", x.lose(s), -11);
            }
        }
        c.due("form 3", new MarketSpring().sheet(0, 3, 1), -2);
        c.due("form -1", new MarketSpring().sheet(0, -1, 1), -2);
        c.due("sheet 4", new MarketSpring().sheet(4, 0, 1), -2);
        c.due("sheet -1", new MarketSpring().sheet(-1, 0, 1), -2);
    }

    private static void itemsAtFirst() {
        c.about("a row of a FORM of 0 to 48 items (0 at first)");
        for (int form = 0; form < 3; form++) {
            MarketSpring x = new MarketSpring();
            x.sheet(form, form, 48);
            for (int i = 0; i < 48; i++) {
                c.due("item " + i, x.get(form, form, i), 0);
            }
        }
    }

    private static void aNewRow() {
        c.about("30 A SHEET is a new row of a FORM with n items");
        MarketSpring x = new MarketSpring();
        x.sheet(1, 2, 48);
        x.sheet(2, 2, 48);
        for (int i = 0; i < 48; i++) {
            x.put(1, 2, i, 70 + i);
            x.put(2, 2, i, 170 + i);
        }
        c.due("a shorter one", x.sheet(1, 2, 3), 3);
        c.due("its items are 0", x.get(1, 2, 2), 0);
        c.due("it has no more", x.put(1, 2, 3, 1), -12);
        c.due("a longer one again", x.sheet(1, 2, 48), 48);
        for (int i = 0; i < 48; i++) {
            c.due("its item " + i + " is 0", x.get(1, 2, i), 0);
        }
        c.due("another FORM", x.sheet(1, 0, 48), 48);
        c.due("it is one of bytes", x.put(1, 0, 0, 1), 1);
        c.due("and no more of ints", x.put(1, 2, 0, 1), -13);
        c.due("the other SHEET stays", x.get(2, 2, 47), 217);
        c.due("none", x.sheet(1, 1, 0), 0);
        c.due("none: item 0", x.put(1, 1, 0, 1), -12);
        c.due("none is not LOST", x.lose(1), 0);
    }

    private static void lost() {
        c.about("31 It is LOST: how many items it had");
        MarketSpring x = new MarketSpring();
        for (int s = 0; s <= 3; s++) {
            x.sheet(s, 1, 12 * s + 12);
        }
        for (int s = 0; s <= 3; s++) {
            c.due("lose(" + s + ")", x.lose(s), 12 * s + 12);
            c.due("lose(" + s + ") again", x.lose(s), -11);
            c.due("get() of it", x.get(s, 1, 0), LEAST);
            c.due("count(8)", x.count(8), 1);
        }
        x.sheet(3, 1, 48);
        c.due("it comes back with 0", x.get(3, 1, 47), 0);
    }

    private static void firstAndLastItem() {
        c.about("32 INDEX: there is no such item");
        for (int form = 0; form < 3; form++) {
            for (int n : new int[] {1, 2, 48}) {
                MarketSpring x = new MarketSpring();
                x.sheet(0, form, n);
                c.due("item -1 of " + n, x.put(0, form, -1, 5), -12);
                c.due("item " + n + " of " + n, x.put(0, form, n, 5), -12);
                c.due("item 0", x.put(0, form, 0, 5), 1);
                c.due("the last item", x.put(0, form, n - 1, 6), 1);
                c.due("item 0 is", x.get(0, form, 0), n == 1 ? 6 : 5);
                c.due("the last item is", x.get(0, form, n - 1), 6);
                c.due("get() of item -1", x.get(0, form, -1), LEAST);
                c.due("get() of item " + n, x.get(0, form, n), LEAST);
            }
        }
    }

    private static void lowestBits() {
        c.about("32 becomes v (the lowest bits that it has, with its sign)");
        int[] values = {0, 1, -1, 127, 128, 129, 255, 256, 257, -127, -128, -129, -256, -257, 32767, 32768, 32769,
            65535, 65536, 65537, -32767, -32768, -32769, -65536, -65537, 0x12345678, 0x8080, 0x17F7F, MOST,
            LEAST + 1, LEAST};
        MarketSpring x = new MarketSpring();
        for (int form = 0; form < 3; form++) {
            x.sheet(form, form, 1);
            for (int v : values) {
                x.put(form, form, 0, v);
                int due = form == 0 ? bits(v, 256) : form == 1 ? bits(v, 65536) : v;
                c.due("form " + form + ", " + v, x.get(form, form, 0), due);
            }
        }
    }

    /** By numbers alone: the rest by so many, from half of them on less all of them. */
    private static int bits(int v, int many) {
        int rest = Math.floorMod(v, many);
        return rest >= many / 2 ? rest - many : rest;
    }

    private static void lowestBitsByWrite() {
        c.about("32 the lowest bits that it has, with its sign; by write(), too");
        int[] levels = {0, 1, 127, 128, 129, 255, 256, 257, 383, 384, 511, 512, 767, 768, 895, 896, 998, 999};
        for (int level : levels) {
            MarketSpring x = new MarketSpring();
            x.set(1, 999);
            x.set(2, level);
            for (int form = 0; form < 3; form++) {
                x.sheet(form, form, 2);
                c.due("write()", x.write(0, form), 2);
                c.due("form " + form + ", LEVEL " + level, x.get(form, form, 1), form == 0 ? bits(level, 256) : level);
            }
        }
    }

    private static void gotten() {
        c.about("33 BAD: the least int; so are NULL, CAST, INDEX (count() 8 tells)");
        MarketSpring x = new MarketSpring();
        x.sheet(0, 2, 2);
        c.due("BAD", x.get(4, 2, 0), LEAST);
        c.due("count(8) of BAD", x.count(8), 0);
        c.due("NULL", x.get(1, 2, 0), LEAST);
        c.due("count(8) of NULL", x.count(8), 1);
        c.due("INDEX", x.get(0, 2, 2), LEAST);
        c.due("count(8) of INDEX", x.count(8), 2);
        c.due("CAST", x.get(0, 1, 0), LEAST);
        c.due("count(8) of CAST", x.count(8), 3);
        c.due("BAD again", x.get(0, 3, 0), LEAST);
        c.due("count(8) stays", x.count(8), 3);
        x.put(0, 2, 1, LEAST);
        c.due("an item that is the least int", x.get(0, 2, 1), LEAST);
        c.due("is no finding", x.count(8), 3);
    }

    // ---- copies

    private static MarketSpring twoSheets(int form) {
        MarketSpring x = new MarketSpring();
        x.sheet(0, form, 6);
        x.sheet(3, form, 4);
        for (int i = 0; i < 6; i++) {
            x.put(0, form, i, i + 1);
        }
        for (int i = 0; i < 4; i++) {
            x.put(3, form, i, 10 * i + 10);
        }
        return x;
    }

    private static void items(String what, MarketSpring x, int s, int form, int... due) {
        for (int i = 0; i < due.length; i++) {
            c.due(what + ", item " + i, x.get(s, form, i), due[i]);
        }
    }

    private static void copiedAll() {
        c.about("34 n items of SHEET s, from i on, come to SHEET t, from j on");
        for (int form = 0; form < 3; form++) {
            MarketSpring x = twoSheets(form);
            c.due("the last four", x.copy(0, 2, 3, 0, 4), 1);
            items("the last four", x, 3, form, 3, 4, 5, 6);
            items("they stay", x, 0, form, 1, 2, 3, 4, 5, 6);
            c.due("one too many for t", x.copy(0, 0, 3, 0, 5), -12);
            c.due("one too many for s", x.copy(0, 3, 3, 0, 4), -12);
            c.due("one to the last", x.copy(0, 0, 3, 3, 1), 1);
            items("one to the last", x, 3, form, 3, 4, 5, 1);
            c.due("one behind the last", x.copy(0, 0, 3, 4, 1), -12);
            c.due("one from the last", x.copy(0, 5, 3, 0, 1), 1);
            items("one from the last", x, 3, form, 6, 4, 5, 1);
            c.due("one from behind the last", x.copy(0, 6, 3, 0, 1), -12);
            x.sheet(1, form, 48);
            x.sheet(2, form, 48);
            x.put(1, form, 47, 8);
            c.due("all of 48", x.copy(1, 0, 2, 0, 48), 1);
            c.due("the last of 48", x.get(2, form, 47), 8);
            c.due("49", x.copy(1, 0, 2, 0, 49), -12);
        }
    }

    private static void copiedOntoItself() {
        c.about("34 SHEET t (perhaps s, as they were)");
        for (int form = 0; form < 3; form++) {
            MarketSpring up = twoSheets(form);
            c.due("one up", up.copy(0, 0, 0, 1, 5), 1);
            items("one up", up, 0, form, 1, 1, 2, 3, 4, 5);
            MarketSpring down = twoSheets(form);
            c.due("one down", down.copy(0, 1, 0, 0, 5), 1);
            items("one down", down, 0, form, 2, 3, 4, 5, 6, 6);
            MarketSpring two = twoSheets(form);
            c.due("two up", two.copy(0, 0, 0, 2, 4), 1);
            items("two up", two, 0, form, 1, 2, 1, 2, 3, 4);
            MarketSpring same = twoSheets(form);
            c.due("onto the same place", same.copy(0, 0, 0, 0, 6), 1);
            items("onto the same place", same, 0, form, 1, 2, 3, 4, 5, 6);
            c.due("one too many", same.copy(0, 0, 0, 1, 6), -12);
            items("one too many", same, 0, form, 1, 2, 3, 4, 5, 6);
        }
    }

    private static void copiedNone() {
        c.about("34 of n 0, too: i or j above the size");
        for (int form = 0; form < 3; form++) {
            MarketSpring x = twoSheets(form);
            c.due("at the first", x.copy(0, 0, 3, 0, 0), 1);
            c.due("behind the last", x.copy(0, 6, 3, 4, 0), 1);
            c.due("i above the size", x.copy(0, 7, 3, 4, 0), -12);
            c.due("j above the size", x.copy(0, 6, 3, 5, 0), -12);
            c.due("i below 0", x.copy(0, -1, 3, 0, 0), -12);
            c.due("j below 0", x.copy(0, 0, 3, -1, 0), -12);
            c.due("n below 0", x.copy(0, 0, 3, 0, -1), -12);
            c.due("n below 0, behind the last", x.copy(0, 6, 3, 4, -1), -12);
            items("none came", x, 3, form, 10, 20, 30, 40);
            x.sheet(1, form, 0);
            c.due("of none to none", x.copy(1, 0, 1, 0, 0), 1);
            c.due("one of none", x.copy(1, 0, 3, 0, 1), -12);
            c.due("one to none", x.copy(3, 0, 1, 0, 1), -12);
            c.due("place 1 of none", x.copy(1, 1, 3, 0, 0), -12);
        }
    }

    private static void copiedBits() {
        c.about("34 n items come to SHEET t");
        MarketSpring x = new MarketSpring();
        x.sheet(0, 2, 3);
        x.sheet(1, 2, 3);
        x.put(0, 2, 0, LEAST);
        x.put(0, 2, 1, MOST);
        x.put(0, 2, 2, -1);
        c.due("copy()", x.copy(0, 0, 1, 0, 3), 1);
        items("ints", x, 1, 2, LEAST, MOST, -1);
        c.due("no finding", x.count(8), 0);
    }

    // ---- what is written

    private static void writtenTo239() {
        c.about("35 as many as there are items and hours to 239: how many");
        int[][] rows = {{0, 0, 0}, {0, 1, 1}, {0, 48, 48}, {191, 48, 48}, {192, 48, 48}, {193, 48, 47}, {238, 48, 2},
            {239, 48, 1}, {239, 1, 1}, {239, 0, 0}, {238, 2, 2}, {238, 1, 1}, {237, 2, 2}};
        for (int[] r : rows) {
            MarketSpring x = Check.town("t010024");
            x.set(1, 999);
            x.set(2, 999);
            x.sheet(1, 1, r[1]);
            for (int i = 0; i < r[1]; i++) {
                x.put(1, 1, i, -7);
            }
            String call = "write(" + r[0] + ", ..) of " + r[1];
            c.due(call, x.write(r[0], 1), r[2]);
            for (int i = 0; i < r[1]; i++) {
                c.due(call + ", item " + i, x.get(1, 1, i), i < r[2] ? 998 - r[0] - i : -7);
            }
        }
        c.about("35 LEVELS behind hours from one (0 to 239) on");
        MarketSpring x = new MarketSpring();
        x.sheet(0, 0, 1);
        c.due("write(-1, 0)", x.write(-1, 0), -2);
        c.due("write(240, 0)", x.write(240, 0), -2);
        c.due("write(0, 4)", x.write(0, 4), -2);
        c.due("write(0, -1)", x.write(0, -1), -2);
    }

    // ---- counts

    private static void findings() {
        c.about("FINDINGS (answers -10 less the number; they change nothing but count() 8): the latest (0 before any)");
        MarketSpring x = new MarketSpring();
        x.sheet(0, 0, 1);
        x.sheet(1, 1, 1);
        c.due("before any", x.count(8), 0);
        for (int round = 0; round < 2; round++) {
            c.due("NULL", x.lose(3), -11);
            c.due("count(8) of NULL", x.count(8), 1);
            c.due("INDEX", x.put(0, 0, 1, 0), -12);
            c.due("count(8) of INDEX", x.count(8), 2);
            c.due("CAST", x.put(0, 1, 0, 0), -13);
            c.due("count(8) of CAST", x.count(8), 3);
            c.due("STORE", x.copy(0, 0, 1, 0, 1), -14);
            c.due("count(8) of STORE", x.count(8), 4);
            c.due("SIZE", x.sheet(2, 0, -1), -15);
            c.due("count(8) of SIZE", x.count(8), 5);
        }
        x.put(0, 0, 0, 1);
        x.get(0, 0, 0);
        x.sheet(2, 0, 1);
        x.lose(2);
        x.wipe();
        x.forget();
        x.type('x');
        x.set(-1, 0);
        c.due("what is well, or BAD, leaves it", x.count(8), 5);
    }

    private static void counts() {
        c.about("36 count: 0 THINGS to 8 the latest FINDING. BAD");
        MarketSpring x = Check.town("t010001!;t010001!;t010001!;t010001!;t010001!;t010001!;h0;h1;h2;h3;h4;h5;h6;h7;h8");
        c.due("six THINGS", x.count(0), 6);
        c.due("nine HANDLES", x.count(1), 9);
        c.due("no GROUPS", x.count(2), 0);
        c.due("bytes", x.count(3), 80);
        c.due("six MUST", x.count(6), 6);
        x.shut(0, 1);
        c.due("SHUT or not: THINGS", x.count(0), 6);
        c.due("SHUT or not: MUST", x.count(6), 6);
        MarketSpring y = Check.town("g99001000;g99011000;g99021000;g99031000;g99041000;g99051000;g99061000;"
            + "g99071000;h1");
        c.due("eight GROUPS", y.count(2), 8);
        c.due("all PEOPLE", y.count(5), 792);
        c.due("they turn away", y.count(7), 0);
        y.set(4, 0);
        y.set(0, 9);
        c.due("all wind", y.count(7), 7128);
        y.set(1, 1);
        c.due("room or not", y.count(7), 7128);
        c.due("count(-1)", y.count(-1), -2);
        c.due("count(9)", y.count(9), -2);
    }

    private static void countsWithFault() {
        c.about("36 count, with a FAULT as if THE TOWN was empty");
        MarketSpring x = Check.town("t010001!;h1;g99001009;");
        x.seen(0, 0);
        int[] due = {0, 0, 0, 22, 1, 0, 0, 0, 0};
        for (int what = 0; what <= 8; what++) {
            c.due("count(" + what + ")", x.count(what), due[what]);
        }
    }

    // ---- the digest

    private static long hash(List<Long> row) {
        long h = 17;
        for (long v : row) {
            h = 31 * h + v;
        }
        return h;
    }

    private static void add(List<Long> row, long... values) {
        for (long v : values) {
            row.add(v);
        }
    }

    private static void digestOfNone() {
        c.about("37 h is 17; h becomes 31 h and each of: of a new object, by hand");
        List<Long> row = new ArrayList<>();
        add(row, 0, 0, 0, 0, 0, 0, 0, 0);
        add(row, -1);
        add(row, 0, 0);
        for (int hour = 0; hour < 5; hour++) {
            add(row, 100, 0, 0);
        }
        // lost, worst (level, hour), fewest, place (street, level), lasts, unlike, robbed
        add(row, 0, 100, 0, 0, 0, 100, -1, 0, 90);
        c.due("digest()", new MarketSpring().digest(), hash(row));
    }

    private static void digestInOrder() {
        c.about("37 (of each thing all that is told of it, then of the next one)");
        MarketSpring x = Check.town("t400024!;t020301;h1;g30071029;g05081290");
        x.set(2, 50);
        x.shut(1, 1);
        x.shift(1, 4);
        x.seen(5, 5);
        List<Long> row = new ArrayList<>();
        add(row, 2, 1, 2, 39, 1, 35, 1, 30);
        add(row, -1);
        // 30 come at hour 7 of each day, and 40 go whenever they are there
        int level = 50;
        int[] levels = new int[240];
        int stood = 0;
        for (int hour = 0; hour < 240; hour++) {
            level += hour % 24 == 7 ? 30 : 0;
            if (level >= 40) {
                level -= 40;
            } else if (hour < 48) {
                stood++;
            }
            levels[hour] = level;
        }
        add(row, 40, 0, 24, 1, 0, 0, stood);
        add(row, 2, 3, 1, 0, 1, 4, 0);
        add(row, 1, 2);
        add(row, 30 * 5 + 5 * 0, 30 * 5 + 5 * 12);
        for (int hour : new int[] {0, 7, 23, 100, 239}) {
            add(row, levels[hour], 0, 0);
        }
        add(row, 0, 0, 7, 1, 0, 0, 1, 1);
        // the thief finds nothing on the first day and takes 5 of 30 on the second
        add(row, 25);
        c.due("digest()", x.digest(), hash(row));
        c.due("it is asked and changes nothing: digest()", x.digest(), hash(row));
        x.lose(0);
        c.due("count(8) is not in it: digest()", x.digest(), hash(row));
    }

    private static void digestWraps() {
        c.about("37 as longs that wrap");
        // 31 to the 33rd times 17 is far above the greatest long: by remainders of 2 to the 64th
        MarketSpring x = new MarketSpring();
        java.math.BigInteger h = java.math.BigInteger.valueOf(17);
        int[] row = {0, 0, 0, 0, 0, 0, 0, 0, -1, 0, 0, 100, 0, 0, 100, 0, 0, 100, 0, 0, 100, 0, 0, 100, 0, 0,
            0, 100, 0, 0, 0, 100, -1, 0, 90};
        for (int v : row) {
            h = h.multiply(java.math.BigInteger.valueOf(31)).add(java.math.BigInteger.valueOf(v));
        }
        c.holds("it is above the greatest long", h.bitLength() > 63);
        c.due("digest()", x.digest(), h.longValue());
    }
}
