/** Promises 30 to 37: sheets, counts and the digest. */
public final class SheetTest {
    private static final int LEAST = Integer.MIN_VALUE;
    private static final int MOST = Integer.MAX_VALUE;
    private static final Check c = new Check();

    public static void main(String[] args) {
        sheet();
        lose();
        put();
        get();
        copy();
        copyOverItself();
        copyRefusals();
        write();
        count();
        digest();
        c.end();
    }

    private static void sheet() {
        MarketSpring x = new MarketSpring();
        c.due("30 sheet(-1, 0, 1)", x.sheet(-1, 0, 1), -2);
        c.due("30 sheet(4, 0, 1)", x.sheet(4, 0, 1), -2);
        c.due("30 sheet(0, -1, 1)", x.sheet(0, -1, 1), -2);
        c.due("30 sheet(0, 3, 1)", x.sheet(0, 3, 1), -2);
        c.due("30 sheet(0, 0, 49)", x.sheet(0, 0, 49), -2);
        c.due("30 sheet(0, 0, greatest)", x.sheet(0, 0, MOST), -2);
        c.due("30 sheet(4, 0, -1), BAD ahead of SIZE", x.sheet(4, 0, -1), -2);
        c.due("30 count(8)", x.count(8), 0);
        c.due("30 still lost", x.read(0), -11);
        c.due("30 sheet(0, 0, -1)", x.sheet(0, 0, -1), -15);
        c.due("30 count(8)", x.count(8), 5);
        c.due("30 sheet(0, 0, least)", x.sheet(0, 0, LEAST), -15);
        c.due("30 still lost", x.lose(0), -11);
        c.due("30 sheet(0, 2, 48)", x.sheet(0, 2, 48), 48);
        c.due("30 items are 0", x.get(0, 2, 47), 0);
        x.put(0, 2, 0, 77);
        x.put(0, 2, 47, 78);
        c.due("30 sheet(0, 2, -2)", x.sheet(0, 2, -2), -15);
        c.due("30 a refusal leaves it", x.get(0, 2, 0), 77);
        c.due("30 sheet(0, 1, 48), anew", x.sheet(0, 1, 48), 48);
        c.due("30 items are 0 anew", x.get(0, 1, 0), 0);
        c.due("30 items are 0 anew", x.get(0, 1, 47), 0);
        c.due("30 sheet(3, 2, 0)", x.sheet(3, 2, 0), 0);
        c.due("30 it is not lost", x.lose(3), 0);
    }

    private static void lose() {
        MarketSpring x = new MarketSpring();
        c.due("31 lose(-1)", x.lose(-1), -2);
        c.due("31 lose(4)", x.lose(4), -2);
        c.due("31 lose(2), lost", x.lose(2), -11);
        c.due("31 count(8)", x.count(8), 1);
        x.sheet(2, 1, 17);
        x.sheet(1, 1, 5);
        x.put(2, 1, 3, 9);
        c.due("31 lose(2)", x.lose(2), 17);
        c.due("31 lose(2) again", x.lose(2), -11);
        c.due("31 the other stays", x.lose(1), 5);
        x.sheet(2, 1, 17);
        c.due("31 a new one has 0", x.get(2, 1, 3), 0);
    }

    private static void put() {
        MarketSpring x = new MarketSpring();
        c.due("32 put(-1, ..)", x.put(-1, 0, 0, 0), -2);
        c.due("32 put(4, ..)", x.put(4, 0, 0, 0), -2);
        c.due("32 put(0, -1, ..)", x.put(0, -1, 0, 0), -2);
        c.due("32 put(0, 3, ..)", x.put(0, 3, 0, 0), -2);
        c.due("32 count(8)", x.count(8), 0);
        c.due("32 put, lost", x.put(0, 0, -1, 0), -11);
        c.due("32 count(8)", x.count(8), 1);
        x.sheet(0, 1, 3);
        c.due("32 put, CAST ahead of INDEX", x.put(0, 0, 3, 0), -13);
        c.due("32 count(8)", x.count(8), 3);
        c.due("32 put, CAST to ints", x.put(0, 2, 0, 0), -13);
        c.due("32 put, INDEX 3", x.put(0, 1, 3, 0), -12);
        c.due("32 count(8)", x.count(8), 2);
        c.due("32 put, INDEX -1", x.put(0, 1, -1, 0), -12);
        c.due("32 put, INDEX least", x.put(0, 1, LEAST, 0), -12);
        c.due("32 put, INDEX greatest", x.put(0, 1, MOST, 0), -12);
        c.due("32 put", x.put(0, 1, 2, 32767), 1);
        c.due("32 short 32767", x.get(0, 1, 2), 32767);
        x.put(0, 1, 2, 32768);
        c.due("32 short 32768", x.get(0, 1, 2), -32768);
        x.put(0, 1, 2, -32769);
        c.due("32 short -32769", x.get(0, 1, 2), 32767);
        x.sheet(1, 0, 1);
        x.put(1, 0, 0, 127);
        c.due("32 byte 127", x.get(1, 0, 0), 127);
        x.put(1, 0, 0, 128);
        c.due("32 byte 128", x.get(1, 0, 0), -128);
        x.put(1, 0, 0, 511);
        c.due("32 byte 511", x.get(1, 0, 0), -1);
        x.sheet(2, 2, 1);
        x.put(2, 2, 0, MOST);
        c.due("32 int, greatest", x.get(2, 2, 0), MOST);
        x.put(2, 2, 0, LEAST);
        c.due("32 int, least", x.get(2, 2, 0), LEAST);
        x.sheet(2, 2, 0);
        c.due("32 put, no items", x.put(2, 2, 0, 1), -12);
    }

    private static void get() {
        MarketSpring x = new MarketSpring();
        c.due("33 get(-1, ..)", x.get(-1, 0, 0), LEAST);
        c.due("33 get(4, ..)", x.get(4, 0, 0), LEAST);
        c.due("33 get(0, 3, ..)", x.get(0, 3, 0), LEAST);
        c.due("33 get(0, -1, ..)", x.get(0, -1, 0), LEAST);
        c.due("33 BAD is no finding", x.count(8), 0);
        c.due("33 get, lost", x.get(0, 0, 0), LEAST);
        c.due("33 NULL", x.count(8), 1);
        x.sheet(0, 0, 2);
        c.due("33 get, CAST ahead of INDEX", x.get(0, 1, 2), LEAST);
        c.due("33 CAST", x.count(8), 3);
        c.due("33 get, INDEX", x.get(0, 0, 2), LEAST);
        c.due("33 INDEX", x.count(8), 2);
        c.due("33 get, INDEX below", x.get(0, 0, -1), LEAST);
        x.put(0, 0, 1, 5);
        c.due("33 get", x.get(0, 0, 1), 5);
        c.due("33 get the other", x.get(0, 0, 0), 0);
        c.due("33 the latest finding stays", x.count(8), 2);
    }

    private static void fill(MarketSpring x, int s, int form, int n, int from) {
        x.sheet(s, form, n);
        for (int i = 0; i < n; i++) {
            x.put(s, form, i, from + i);
        }
    }

    private static void items(MarketSpring x, int s, int form, int... due) {
        for (int i = 0; i < due.length; i++) {
            c.due("34 item " + i + " of sheet " + s, x.get(s, form, i), due[i]);
        }
    }

    private static void copy() {
        MarketSpring x = new MarketSpring();
        fill(x, 0, 1, 5, 10);
        fill(x, 1, 1, 4, 50);
        c.due("34 copy(0, 1, 1, 2, 2)", x.copy(0, 1, 1, 2, 2), 1);
        items(x, 1, 1, 50, 51, 11, 12);
        items(x, 0, 1, 10, 11, 12, 13, 14);
        c.due("34 copy of all", x.copy(1, 0, 0, 1, 4), 1);
        items(x, 0, 1, 10, 50, 51, 11, 12);
        c.due("34 copy of none, at the ends", x.copy(0, 5, 1, 4, 0), 1);
        items(x, 1, 1, 50, 51, 11, 12);
    }

    private static void copyOverItself() {
        MarketSpring x = new MarketSpring();
        fill(x, 2, 0, 5, 1);
        c.due("34 copy up", x.copy(2, 0, 2, 1, 4), 1);
        items(x, 2, 0, 1, 1, 2, 3, 4);
        fill(x, 2, 2, 5, 1);
        c.due("34 copy down", x.copy(2, 2, 2, 0, 3), 1);
        items(x, 2, 2, 3, 4, 5, 4, 5);
    }

    private static void copyRefusals() {
        MarketSpring x = new MarketSpring();
        c.due("34 copy, SHEET s", x.copy(-1, 0, 0, 0, 0), -2);
        c.due("34 copy, SHEET s 4", x.copy(4, 0, 0, 0, 0), -2);
        c.due("34 copy, SHEET t", x.copy(0, 0, 4, 0, 0), -2);
        c.due("34 copy, SHEET t -1", x.copy(0, 0, -1, 0, 0), -2);
        c.due("34 copy, no finding", x.count(8), 0);
        c.due("34 copy, both lost", x.copy(0, -1, 1, -1, -1), -11);
        fill(x, 0, 1, 5, 10);
        c.due("34 copy, t lost", x.copy(0, -1, 1, 0, 0), -11);
        c.due("34 copy, s lost", x.copy(1, 0, 0, 0, 0), -11);
        c.due("34 copy, NULL", x.count(8), 1);
        fill(x, 1, 2, 4, 50);
        c.due("34 copy, STORE ahead of INDEX", x.copy(0, -1, 1, 0, 0), -14);
        c.due("34 copy, STORE", x.count(8), 4);
        c.due("34 copy, STORE of none", x.copy(0, 0, 1, 0, 0), -14);
        fill(x, 1, 1, 4, 50);
        int[][] wrong = {{-1, 0, 1}, {0, -1, 1}, {0, 0, -1}, {0, 0, 5}, {1, 0, 5}, {4, 0, 2}, {0, 1, 4},
            {6, 0, 0}, {0, 5, 0}, {-1, 0, 0}, {0, -1, 0}, {5, 0, 1}, {0, 4, 1}, {MOST, 0, 1}, {0, MOST, 1},
            {0, 0, MOST}, {MOST, MOST, MOST}, {1, 1, MOST}, {0, 0, LEAST}, {LEAST, 0, 1}, {LEAST, LEAST, LEAST},
            {6, 0, -1}};
        for (int[] w : wrong) {
            String call = "34 copy, INDEX " + w[0] + ", " + w[1] + ", " + w[2];
            c.due(call, x.copy(0, w[0], 1, w[1], w[2]), -12);
            c.due(call, x.count(8), 2);
        }
        items(x, 1, 1, 50, 51, 52, 53);
    }

    private static void write() {
        MarketSpring x = Check.town("t020024");
        x.set(1, 999);
        x.set(2, 300);
        c.due("35 write(-1, 0)", x.write(-1, 0), -2);
        c.due("35 write(240, 0)", x.write(240, 0), -2);
        c.due("35 write(0, 4)", x.write(0, 4), -2);
        c.due("35 write(0, -1)", x.write(0, -1), -2);
        c.due("35 count(8)", x.count(8), 0);
        c.due("35 write(0, 0), lost", x.write(0, 0), -11);
        c.due("35 count(8)", x.count(8), 1);
        x.sheet(0, 2, 3);
        c.due("35 write(5, 0)", x.write(5, 0), 3);
        for (int i = 0; i < 3; i++) {
            c.due("35 int " + i, x.get(0, 2, i), 288 - 2 * i);
        }
        x.sheet(1, 0, 2);
        c.due("35 write(0, 1)", x.write(0, 1), 2);
        c.due("35 byte of 298", x.get(1, 0, 0), 42);
        x.set(2, 202);
        x.write(0, 1);
        c.due("35 byte of 200", x.get(1, 0, 0), -56);
        x.sheet(2, 1, 48);
        for (int i = 0; i < 48; i++) {
            x.put(2, 1, i, 9);
        }
        c.due("35 write(238, 2)", x.write(238, 2), 2);
        c.due("35 up to hour 239", x.get(2, 1, 1), 0);
        c.due("35 none behind", x.get(2, 1, 2), 9);
        c.due("35 write(239, 2)", x.write(239, 2), 1);
        c.due("35 write(192, 2)", x.write(192, 2), 48);
        c.due("35 write(193, 2)", x.write(193, 2), 47);
        x.sheet(3, 1, 0);
        c.due("35 write(0, 3), no items", x.write(0, 3), 0);
    }

    private static void count() {
        MarketSpring x = Check.town("t020024!;t030001;t030001!;h3;h4;g10053400;g20063400;g09070100");
        x.set(0, 2);
        x.set(5, 1);
        x.shut(0, 1);
        x.seen(1, 1);
        x.seen(2, 1);
        x.lose(0);
        int[] due = {3, 2, 3, 61, 2, 39, 2, 60, 1};
        for (int what = 0; what <= 8; what++) {
            c.due("36 count(" + what + ")", x.count(what), due[what]);
        }
        c.due("36 count(-1)", x.count(-1), -2);
        c.due("36 count(9)", x.count(9), -2);
    }

    /** The digest by the document's list, from the answers themselves. */
    private static long digestDue(MarketSpring x) {
        java.util.List<Long> told = new java.util.ArrayList<>();
        for (int what = 0; what <= 7; what++) {
            told.add((long) x.count(what));
        }
        told.add((long) x.fault());
        for (int t = 0; t < x.count(0); t++) {
            for (int what = 0; what <= 5; what++) {
                told.add((long) x.thing(t, what));
            }
            told.add((long) x.stood(t, 2));
        }
        for (int g = 0; g < x.count(2); g++) {
            told.add((long) x.goes(g));
        }
        told.add((long) x.toil(0));
        told.add((long) x.toil(1));
        for (int hour : new int[] {0, 7, 23, 100, 239}) {
            told.add((long) x.level(hour, 0));
            told.add((long) x.level(hour, 1));
            told.add((long) x.flow(hour));
        }
        int[] rest = {x.lost(2), x.worst(3, 0), x.worst(3, 1), x.fewest(2), x.place(2, 0), x.place(2, 1),
            x.lasts(), x.unlike(), x.robbed(9, 5, 47)};
        long h = 17;
        for (long v : told) {
            h = 31 * h + v;
        }
        for (int v : rest) {
            h = 31 * h + v;
        }
        return h;
    }

    private static void digest() {
        MarketSpring x = Check.town("t020024!;t030001;t390501!;h3;h4;g10053400;g20063405;g09070138");
        c.due("37 digest()", x.digest(), digestDue(x));
        for (int what = 0; what < 9; what++) {
            x.set(what, 1 + what * (what == 5 ? 0 : 1));
            c.due("37 digest() behind set " + what, x.digest(), digestDue(x));
        }
        x.shut(1, 1);
        x.shift(0, 7);
        x.seen(5, 5);
        long before = x.digest();
        c.due("37 digest()", before, digestDue(x));
        c.due("37 digest() changes nothing", x.digest(), before);
        x.sheet(0, 0, -1);
        c.due("37 digest() without count(8)", x.digest(), before);
        x.type('?');
        c.due("37 digest() with a fault", x.digest(), digestDue(x));
        // levels that change every hour, winding that fills up at hour 8 or 9, toil that asking changes
        for (String when : new String[] {"08", "09"}) {
            MarketSpring y = Check.town("t030024;h1;h4;g99" + when + "1209;g20105201;g30114500");
            y.set(1, 999);
            for (int start : new int[] {999, 180, 120, 90}) {
                y.set(2, start);
                c.due("37 digest(), START " + start, y.digest(), digestDue(y));
            }
            y.wipe();
            Check.typeAll(y, "t030024;h4;g30115400");
            y.set(2, 999);
            c.due("37 digest(), START 999", y.digest(), digestDue(y));
            c.holds("37 asking changes toil", y.toil(0) != y.toil(1));
            y.set(2, 180);
            c.due("37 digest(), START 180", y.digest(), digestDue(y));
        }
        MarketSpring empty = new MarketSpring();
        c.due("37 digest() of an empty town", empty.digest(), digestDue(empty));
    }
}
