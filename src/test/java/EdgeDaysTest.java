/** The bounds of SETTINGS, WAYS and HOURS: promises 8 and 12 to 20, a method for each sentence. */
public final class EdgeDaysTest {
    private static final int[] LEAST = {1, 1, 0, 0, 0, 0, 0, 0, 0};
    private static final int[] MOST = {9, 999, 999, 99, 9, 1, 99, 999, 99};
    private static final int[] FIRST = {1, 200, 100, 0, 3, 0, 0, 0, 0};
    private static final int[] EDGES = {0, 1, 22, 23};
    private static final Check c = new Check();

    public static void main(String[] args) {
        settings();
        settingsAtTheirBounds();
        firstUnlessSecondCostsLess();
        costWithHandle();
        asked();
        toilEdges();
        woundTogether();
        roundTheClock();
        notIfShut();
        tenDays();
        beginsAtStart();
        secondBegins();
        roomForWinding();
        windingComesFirst();
        drawsIfNoLess();
        tireIsCut();
        tireBehindDrawing();
        drain();
        chainHalf();
        chainLink();
        chainRoom();
        chainComesLast();
        flowSign();
        stoodDays();
        lostDays();
        worstDays();
        worstFirst();
        c.end();
    }

    /** A new object with START, MOST, and further settings in pairs. */
    private static MarketSpring spring(String text, int start, int most, int... more) {
        MarketSpring x = Check.town(text);
        c.due("the text is well: " + text, x.fault(), -1);
        x.set(2, start);
        x.set(1, most);
        for (int i = 0; i + 1 < more.length; i += 2) {
            x.set(more[i], more[i + 1]);
        }
        return x;
    }

    private static final int TIRE = 3, LINK = 6, SECOND = 7, DRAIN = 8;

    // ---- settings

    private static void settings() {
        c.about("8 A SETTING (0 to 8, in the order told): what it was");
        for (int what = 0; what < 9; what++) {
            MarketSpring x = new MarketSpring();
            c.due("set(" + what + ", least)", x.set(what, LEAST[what]), FIRST[what]);
            c.due("set(" + what + ", most)", x.set(what, MOST[what]), LEAST[what]);
            c.due("set(" + what + ", below)", x.set(what, LEAST[what] - 1), -5);
            c.due("set(" + what + ", above)", x.set(what, MOST[what] + 1), -5);
            c.due("set(" + what + ", most) again", x.set(what, MOST[what]), MOST[what]);
            for (int other = 0; other < 9; other++) {
                if (other != what) {
                    c.due("set(" + other + ") is as at first", x.set(other, 1), FIRST[other]);
                }
            }
        }
        MarketSpring x = new MarketSpring();
        c.due("set(-1, 1)", x.set(-1, 1), -5);
        c.due("set(9, 1)", x.set(9, 1), -5);
    }

    private static void settingsAtTheirBounds() {
        String town = "h1;g99001009";
        c.about("GIVE (1 to 9; 1 at first)");
        MarketSpring x = Check.town(town);
        c.due("at first", x.wound(0), 99);
        x.set(0, 9);
        c.due("GIVE 9", x.wound(0), 891);
        x.set(0, 1);
        c.due("GIVE 1", x.wound(0), 99);
        c.about("MOST (1 to 999; 200)");
        c.due("at first", x.level(1, 0), 199);
        c.due("at first, full", x.level(24, 0), 200);
        x.set(1, 1);
        c.due("MOST 1", x.level(239, 0), 1);
        x.set(1, 999);
        c.due("MOST 999", x.level(239, 0), 999);
        c.due("MOST 999, not yet full", x.level(215, 0), 991);
        c.about("START (0 to 999; 100)");
        MarketSpring y = new MarketSpring();
        y.set(1, 999);
        c.due("at first", y.level(0, 0), 100);
        y.set(2, 0);
        c.due("START 0", y.level(0, 0), 0);
        y.set(2, 999);
        c.due("START 999", y.level(0, 0), 999);
        c.about("TOIL (0 to 9; 3)");
        int[] far = {0, 1, 2, 3, 4, 8, 9};
        MarketSpring z = Check.town("h1;g01001200;g01001201;g01001202;g01001203;g01001204;g01001208;g01001209");
        for (int g = 0; g < far.length; g++) {
            c.due("at first, the second " + far[g], z.goes(g), far[g] < 3 ? 2 : 1);
        }
        for (int toil : new int[] {0, 9}) {
            z.set(4, toil);
            for (int g = 0; g < far.length; g++) {
                c.due("TOIL " + toil + ", the second " + far[g], z.goes(g), far[g] < toil ? 2 : 1);
            }
        }
    }

    // ---- ways

    private static void firstUnlessSecondCostsLess() {
        c.about("It goes by the first of its STREETS, or by the second, if that costs less");
        for (int first = 0; first <= 9; first++) {
            for (int second = 0; second <= 9; second++) {
                MarketSpring x = Check.town("g010045" + first + second);
                c.due("goes(0) of " + first + ", " + second, x.goes(0), second < first ? 5 : 4);
                c.due("toil(0) of it", x.toil(0), Math.min(first, second));
            }
        }
    }

    private static void costWithHandle() {
        c.about("COST for each of its people: how LONG it is, and TOIL, if it has a HANDLE");
        for (int toil = 0; toil <= 9; toil++) {
            for (int far = 0; far <= 9; far++) {
                // 3 long with a handle, against one without
                MarketSpring x = Check.town("h4;g0700453" + far + ";g070054" + far + "3");
                x.set(4, toil);
                c.due("the first has one: " + toil + ", " + far, x.goes(0), far < 3 + toil ? 5 : 4);
                c.due("the second has one: " + toil + ", " + far, x.goes(1), 3 + toil < far ? 4 : 5);
                c.due("toil(0): " + toil + ", " + far, x.toil(0), 14 * Math.min(far, 3 + toil));
                c.due("toil(1): " + toil + ", " + far, x.toil(1), 14 * (3 + toil));
                MarketSpring both = Check.town("h4;h5;g0700453" + far);
                both.set(4, toil);
                c.due("both have one: " + toil + ", " + far, both.goes(0), far < 3 ? 5 : 4);
                c.due("its toil", both.toil(0), 7 * (toil + Math.min(far, 3)));
            }
        }
    }

    private static void asked() {
        c.about("If all are ASKED, it goes by one with a HANDLE, if just one of both has one; else as it would");
        String[] handles = {"", "h4;", "h5;", "h4;h5;"};
        for (int k = 0; k < 4; k++) {
            MarketSpring x = Check.town(handles[k] + "g01004509;g01004590;g01004533");
            x.set(4, 9);
            int[] free = new int[][] {{4, 5, 4}, {4, 5, 5}, {4, 4, 4}, {4, 5, 4}}[k];
            for (int g = 0; g < 3; g++) {
                c.due(handles[k] + " not asked: goes(" + g + ")", x.goes(g), free[g]);
            }
            c.due("set(5, 1)", x.set(5, 1), 0);
            for (int g = 0; g < 3; g++) {
                c.due(handles[k] + " asked: goes(" + g + ")", x.goes(g), k == 1 ? 4 : k == 2 ? 5 : free[g]);
            }
            c.due("set(5, 0)", x.set(5, 0), 1);
            c.due(handles[k] + " no longer asked: goes(0)", x.goes(0), free[0]);
        }
    }

    private static void toilEdges() {
        c.about("13 COST of all GROUPS, each going for itself (0), as if all were ASKED (1)");
        MarketSpring none = new MarketSpring();
        c.due("none: toil(0)", none.toil(0), 0);
        c.due("none: toil(1)", none.toil(1), 0);
        StringBuilder text = new StringBuilder("h1");
        for (int g = 0; g < 8; g++) {
            text.append(";g99001099");
        }
        MarketSpring x = Check.town(text.toString());
        x.set(4, 9);
        for (int asked = 0; asked <= 1; asked++) {
            x.set(5, asked);
            c.due("eight of 99: toil(0)", x.toil(0), 8 * 99 * 9);
            c.due("eight of 99: toil(1)", x.toil(1), 8 * 99 * 18);
        }
        c.due("toil(-1)", x.toil(-1), -2);
        c.due("toil(2)", x.toil(2), -2);
    }

    private static void woundTogether() {
        c.about("WOUND in an hour of the day: of all GROUPS of that hour that go by a STREET with a HANDLE, together");
        StringBuilder text = new StringBuilder("h1");
        for (int g = 0; g < 8; g++) {
            text.append(";g99231009");
        }
        MarketSpring x = Check.town(text.toString());
        x.set(0, 9);
        c.due("eight of 99, GIVE 9: wound(23)", x.wound(23), 7128);
        c.due("count(7)", x.count(7), 7128);
        for (int hour = 0; hour < 23; hour++) {
            c.due("wound(" + hour + ")", x.wound(hour), 0);
        }
        c.due("wound(24)", x.wound(24), -2);
        c.due("wound(-1)", x.wound(-1), -2);
        MarketSpring y = Check.town("h1;g10001009;g20001200;g30231299;g40231009");
        c.due("the second turns away: wound(0)", y.wound(0), 10);
        c.due("both ends of the day: wound(23)", y.wound(23), 40);
        c.due("count(7)", y.count(7), 50);
        y.set(1, 999);
        c.due("it comes each day: level(0, 0)", y.level(0, 0), 110);
        c.due("level(22, 0)", y.level(22, 0), 110);
        c.due("level(23, 0)", y.level(23, 0), 150);
        c.due("level(24, 0)", y.level(24, 0), 160);
        c.due("level(239, 0)", y.level(239, 0), 600);
    }

    // ---- hours in which a thing goes

    private static void roundTheClock() {
        c.about("A THING goes in n hours of each day, from its hour and SHIFT on, round the clock");
        for (int from : EDGES) {
            for (int shift : EDGES) {
                for (int n : new int[] {1, 2, 23, 24}) {
                    String text = "t01" + (from < 10 ? "0" : "") + from + (n < 10 ? "0" : "") + n;
                    MarketSpring x = spring(text, 999, 999);
                    x.shift(0, shift);
                    int due = 999;
                    for (int hour = 0; hour < 49; hour++) {
                        boolean goes = ((hour - from - shift) % 24 + 48) % 24 < n;
                        due -= goes ? 1 : 0;
                        c.due(text + ", shift " + shift + ": level(" + hour + ", 0)", x.level(hour, 0), due);
                    }
                    c.due(text + ", shift " + shift + ": level(239, 0)", x.level(239, 0), 999 - 10 * n);
                }
            }
        }
    }

    private static void notIfShut() {
        c.about("but not, if it is SHUT");
        MarketSpring x = spring("t400024;t100024", 30, 200);
        c.due("stands(0, 0)", x.stands(0, 0), 1);
        x.shut(0, 1);
        c.due("shut: stands(0, 0)", x.stands(0, 0), 0);
        c.due("shut: stood(0, 9)", x.stood(0, 9), 0);
        c.due("the other goes: level(2, 0)", x.level(2, 0), 0);
        x.shut(1, 1);
        c.due("both shut: level(239, 0)", x.level(239, 0), 30);
        x.shut(0, 0);
        c.due("open again: stood(0, 1)", x.stood(0, 1), 24);
    }

    private static void tenDays() {
        c.about("HOURS 0 to 239 are ten days");
        MarketSpring x = spring("t010001;t022301", 100, 200);
        for (int day = 0; day < 10; day++) {
            c.due("hour 0 of day " + day, x.level(24 * day, 0), 99 - 3 * day);
            c.due("hour 22 of day " + day, x.level(24 * day + 22, 0), 99 - 3 * day);
            c.due("hour 23 of day " + day, x.level(24 * day + 23, 0), 97 - 3 * day);
        }
        c.due("level(240, 0)", x.level(240, 0), -2);
        c.due("level(-1, 0)", x.level(-1, 0), -2);
        c.due("stands(0, 239)", x.stands(0, 239), 0);
        c.due("stands(0, 240)", x.stands(0, 240), -2);
        c.due("stands(0, -1)", x.stands(0, -1), -2);
        c.due("flow(239)", x.flow(239), 0);
        c.due("flow(240)", x.flow(240), -10002);
        c.due("flow(-1)", x.flow(-1), -10002);
        MarketSpring last = spring("t102301", 99, 200);
        c.due("the last hour: stands(0, 215)", last.stands(0, 215), 0);
        c.due("the last hour: stands(0, 239)", last.stands(0, 239), 1);
        c.due("lasts()", last.lasts(), 239);
        last.set(2, 100);
        c.due("the last hour: stands(0, 239)", last.stands(0, 239), 0);
        c.due("lasts(), NONE", last.lasts(), -1);
        last.set(2, 9);
        last.shift(0, 1);
        c.due("the first hour: lasts()", last.lasts(), 0);
    }

    // ---- what happens in an hour

    private static void beginsAtStart() {
        c.about("LEVEL begins at START (MOST, if that is less)");
        int[][] rows = {{99, 100, 99}, {100, 100, 100}, {101, 100, 100}, {999, 1, 1}, {0, 1, 0}, {1, 1, 1},
            {999, 999, 999}, {999, 998, 998}};
        for (int[] r : rows) {
            c.due("START " + r[0] + ", MOST " + r[1], spring("", r[0], r[1]).level(0, 0), r[2]);
        }
        MarketSpring x = spring("", 300, 200);
        c.due("it is cut: level(0, 0)", x.level(0, 0), 200);
        x.set(1, 400);
        c.due("but START stays: level(0, 0)", x.level(0, 0), 300);
        c.due("set(2, ..)", x.set(2, 0), 300);
        c.due("nothing is lost by it", spring("", 300, 200).lost(9), 0);
    }

    private static void secondBegins() {
        c.about("that of the SECOND spring at SECOND");
        for (int v : new int[] {0, 1, 200, 201, 999}) {
            MarketSpring x = spring("", 0, 1, SECOND, v);
            c.due("SECOND " + v, x.level(0, 1), v);
            c.due("SECOND " + v + ", hour 239", x.level(239, 1), v);
            c.due("LEVEL is as it was", x.level(239, 0), 0);
        }
        c.due("level(0, 2)", new MarketSpring().level(0, 2), -2);
        c.due("level(0, -1)", new MarketSpring().level(0, -1), -2);
    }

    private static void roomForWinding() {
        c.about("what is WOUND comes to LEVEL, as far as there is room up to MOST (the rest is lost)");
        for (int start = 88; start <= 100; start++) {
            MarketSpring x = spring("h1;g10001009", start, 100);
            c.due("START " + start + ": level(0, 0)", x.level(0, 0), Math.min(100, start + 10));
            c.due("START " + start + ": lost(1)", x.lost(1), Math.max(0, start - 90));
        }
        MarketSpring much = spring("h1;g99001009", 999, 1, 0, 9);
        c.due("MOST 1: level(0, 0)", much.level(0, 0), 1);
        c.due("MOST 1: lost(9)", much.lost(9), 9 * 891);
        MarketSpring bit = spring("h1;g99001009", 0, 1, 0, 9);
        c.due("MOST 1, START 0: lost(1)", bit.lost(1), 890);
        c.due("MOST 1, START 0: lost(2)", bit.lost(2), 890 + 891);
    }

    private static void windingComesFirst() {
        c.about("what is WOUND comes to LEVEL; then THINGS that go in that hour");
        MarketSpring x = spring("t100001;h1;g10001009", 0, 200);
        c.due("stands(0, 0)", x.stands(0, 0), 0);
        c.due("level(0, 0)", x.level(0, 0), 0);
        MarketSpring full = spring("t100001;h1;g10001009", 100, 100);
        c.due("no room is made ahead of it: level(0, 0)", full.level(0, 0), 90);
        c.due("lost(1)", full.lost(1), 10);
    }

    private static void drawsIfNoLess() {
        c.about("each draws its NEED, if LEVEL is no less; else it STANDS (and draws nothing)");
        for (int need : new int[] {1, 2, 39, 40}) {
            String text = "t" + (need < 10 ? "0" : "") + need + "0001";
            for (int start = need - 1; start <= need + 1; start++) {
                MarketSpring x = spring(text, start, 200);
                c.due(text + ", START " + start + ": stands(0, 0)", x.stands(0, 0), start < need ? 1 : 0);
                c.due(text + ", START " + start + ": level(0, 0)", x.level(0, 0), start < need ? start : start - need);
            }
        }
        MarketSpring x = spring("t400001;t010001;t390001;t380001", 39, 200);
        int[] due = {1, 0, 1, 0};
        for (int t = 0; t < 4; t++) {
            c.due("one after the other: stands(" + t + ", 0)", x.stands(t, 0), due[t]);
        }
        c.due("one after the other: level(0, 0)", x.level(0, 0), 0);
        c.due("it stands only in its hour: stands(0, 1)", x.stands(0, 1), 0);
        c.due("an hour of the next day: stands(1, 24)", x.stands(1, 24), 1);
    }

    private static void tireIsCut() {
        c.about("then LEVEL loses TIRE hundredths of it (cut)");
        int[][] rows = {{0, 99, 0}, {1, 99, 1}, {2, 99, 1}, {100, 99, 1}, {101, 99, 2}, {99, 1, 99}, {100, 1, 99},
            {199, 1, 198}, {200, 1, 198}, {999, 1, 990}, {999, 99, 10}, {999, 50, 500}, {1, 50, 1}, {2, 50, 1},
            {999, 0, 999}};
        for (int[] r : rows) {
            MarketSpring x = spring("", r[0], 999, TIRE, r[1]);
            c.due("LEVEL " + r[0] + ", TIRE " + r[1], x.level(0, 0), r[2]);
        }
    }

    private static void tireBehindDrawing() {
        c.about("THINGS draw; then LEVEL loses TIRE hundredths");
        MarketSpring x = spring("t400001;h1;g60001009", 20, 200, TIRE, 50);
        c.due("80 less 40, half of it", x.level(0, 0), 20);
        c.due("stands(0, 0)", x.stands(0, 0), 0);
        MarketSpring y = spring("t400001", 40, 200, TIRE, 99);
        c.due("it draws ahead of it", y.stands(0, 0), 0);
        c.due("the SECOND does not tire", spring("", 0, 200, TIRE, 50, SECOND, 100).level(5, 1), 100);
    }

    private static void drain() {
        c.about("then the SECOND loses DRAIN (which comes to no LEVEL), or all, if it has less");
        int[][] rows = {{10, 9, 1, 0}, {10, 10, 0, 0}, {10, 11, 0, 0}, {999, 99, 900, 801}, {0, 99, 0, 0},
            {1, 0, 1, 1}};
        for (int[] r : rows) {
            MarketSpring x = spring("", 50, 200, SECOND, r[0], DRAIN, r[1]);
            c.due("SECOND " + r[0] + ", DRAIN " + r[1] + ": level(0, 1)", x.level(0, 1), r[2]);
            c.due("SECOND " + r[0] + ", DRAIN " + r[1] + ": level(1, 1)", x.level(1, 1), r[3]);
            c.due("it comes to no LEVEL", x.level(1, 0), 50);
            c.due("it is no FLOW", x.flow(0), 0);
        }
        c.about("the SECOND loses DRAIN; then the chain");
        MarketSpring x = spring("", 0, 200, SECOND, 30, DRAIN, 10, LINK, 99);
        c.due("half of 20: level(0, 0)", x.level(0, 0), 10);
        c.due("half of 20: level(0, 1)", x.level(0, 1), 10);
        MarketSpring all = spring("", 0, 200, SECOND, 30, DRAIN, 30, LINK, 99);
        c.due("nothing is left to flow", all.flow(0), 0);
    }

    private static void chainHalf() {
        c.about("the chain: half the difference of both (cut) flows from the greater to the lesser");
        for (int level = 0; level <= 4; level++) {
            for (int second = 0; second <= 4; second++) {
                MarketSpring x = spring("", level, 200, SECOND, second, LINK, 99);
                int flow = (second - level) / 2;
                String pair = level + " and " + second;
                c.due("flow(0) of " + pair, x.flow(0), flow);
                c.due("level(0, 0) of " + pair, x.level(0, 0), level + flow);
                c.due("level(0, 1) of " + pair, x.level(0, 1), second - flow);
                c.due("then no more, " + pair, x.flow(1), 0);
            }
        }
    }

    private static void chainLink() {
        c.about("LINK at most");
        for (int link : new int[] {0, 1, 98, 99}) {
            for (int half = Math.max(0, link - 1); half <= link + 1; half++) {
                String row = "LINK " + link + ", half " + half;
                MarketSpring up = spring("", 0, 999, SECOND, 2 * half, LINK, link);
                c.due(row + ", to LEVEL", up.flow(0), Math.min(half, link));
                MarketSpring down = spring("", 2 * half, 999, LINK, link);
                c.due(row + ", from LEVEL", down.flow(0), -Math.min(half, link));
                c.due(row + ", the SECOND's", down.level(0, 1), Math.min(half, link));
            }
        }
    }

    private static void chainRoom() {
        c.about("to LEVEL no more than there is room");
        for (int start = 88; start <= 100; start++) {
            MarketSpring x = spring("", start, 100, SECOND, 300, LINK, 10);
            int flow = Math.min(10, 100 - start);
            c.due("START " + start + ": flow(0)", x.flow(0), flow);
            c.due("START " + start + ": level(0, 0)", x.level(0, 0), start + flow);
            c.due("START " + start + ": level(0, 1)", x.level(0, 1), 300 - flow);
        }
        c.due("what has no room is not lost", spring("", 100, 100, SECOND, 300, LINK, 10).lost(9), 0);
        MarketSpring most = spring("", 0, 1, SECOND, 999, LINK, 99);
        c.due("MOST 1: flow(0)", most.flow(0), 1);
        c.due("MOST 1: flow(1)", most.flow(1), 0);
    }

    private static void chainComesLast() {
        c.about("THINGS draw, LEVEL tires; then the chain");
        MarketSpring x = spring("t100001", 9, 200, SECOND, 100, LINK, 5);
        c.due("it stands ahead of what flows", x.stands(0, 0), 1);
        c.due("level(0, 0)", x.level(0, 0), 14);
        MarketSpring tired = spring("", 100, 200, TIRE, 50, LINK, 99);
        c.due("half of what is left: flow(0)", tired.flow(0), -25);
        MarketSpring full = spring("t050001", 100, 100, SECOND, 300, LINK, 99);
        c.due("room that a draw has made: flow(0)", full.flow(0), 5);
    }

    private static void flowSign() {
        c.about("FLOW (above 0 to LEVEL)");
        c.due("to LEVEL", spring("", 0, 999, SECOND, 999, LINK, 99).flow(0), 99);
        c.due("from LEVEL", spring("", 999, 999, LINK, 99).flow(0), -99);
        c.due("none", spring("", 50, 999, SECOND, 50, LINK, 99).flow(0), 0);
        c.about("19 FLOW of an hour, as any number. BAD: -10002");
        // what is BAD elsewhere is an answer here
        c.due("-2 is a flow", spring("", 4, 999, LINK, 2).flow(0), -2);
        c.due("flow(-1)", new MarketSpring().flow(-1), -10002);
        c.due("flow(240)", new MarketSpring().flow(240), -10002);
    }

    // ---- so many days

    private static void stoodDays() {
        c.about("17 How many hours a THING STANDS in so many days (1 to 9)");
        MarketSpring always = spring("t010024", 0, 200);
        MarketSpring first = spring("t010001", 0, 200);
        MarketSpring last = spring("t012301", 0, 200);
        for (int days = 1; days <= 9; days++) {
            c.due("every hour: stood(0, " + days + ")", always.stood(0, days), 24 * days);
            c.due("hour 0: stood(0, " + days + ")", first.stood(0, days), days);
            c.due("hour 23: stood(0, " + days + ")", last.stood(0, days), days);
        }
        c.due("stood(0, 0)", always.stood(0, 0), -2);
        c.due("stood(0, 10)", always.stood(0, 10), -2);
        // on the tenth day alone
        MarketSpring tenth = spring("t110001", 99, 200);
        c.due("it stands on day ten", tenth.stands(0, 216), 1);
        c.due("stood(0, 9) is without it", tenth.stood(0, 9), 0);
        MarketSpring ninth = spring("t112301", 98, 200);
        c.due("it stands in the ninth day's last hour", ninth.stands(0, 215), 1);
        c.due("stood(0, 9) is with it", ninth.stood(0, 9), 1);
        c.due("stood(0, 8) is without it", ninth.stood(0, 8), 0);
    }

    private static void lostDays() {
        c.about("18 What was WOUND and had no room, in so many days");
        for (String hour : new String[] {"00", "23"}) {
            MarketSpring x = spring("h1;g10" + hour + "1009", 200, 200);
            for (int days = 1; days <= 9; days++) {
                c.due("hour " + hour + ": lost(" + days + ")", x.lost(days), 10 * days);
            }
            c.due("lost(0)", x.lost(0), -2);
            c.due("lost(10)", x.lost(10), -2);
            x.set(2, 110);
            c.due("full by day nine: lost(9)", x.lost(9), 0);
            x.set(2, 111);
            c.due("one too many on day nine: lost(9)", x.lost(9), 1);
            c.due("one too many on day nine: lost(8)", x.lost(8), 0);
        }
    }

    private static void worstDays() {
        c.about("20 The least LEVEL behind an hour of so many days (what = 0), the first such hour (1)");
        MarketSpring first = spring("t050001", 100, 200);
        MarketSpring last = spring("t052301", 100, 200);
        for (int days = 1; days <= 9; days++) {
            c.due("hour 0: worst(" + days + ", 0)", first.worst(days, 0), 100 - 5 * days);
            c.due("hour 0: worst(" + days + ", 1)", first.worst(days, 1), 24 * days - 24);
            c.due("hour 23: worst(" + days + ", 0)", last.worst(days, 0), 100 - 5 * days);
            c.due("hour 23: worst(" + days + ", 1)", last.worst(days, 1), 24 * days - 1);
        }
        for (int what = 0; what <= 1; what++) {
            c.due("worst(0, " + what + ")", first.worst(0, what), -2);
            c.due("worst(10, " + what + ")", first.worst(10, what), -2);
        }
        c.due("worst(1, 2)", first.worst(1, 2), -2);
        c.due("worst(1, -1)", first.worst(1, -1), -2);
    }

    private static void worstFirst() {
        c.about("20 the first such hour (1)");
        MarketSpring even = spring("", 999, 999);
        c.due("all alike: worst(9, 0)", even.worst(9, 0), 999);
        c.due("all alike: worst(9, 1)", even.worst(9, 1), 0);
        MarketSpring again = spring("t100501;h1;g10071009;t100901;g10111009", 100, 200);
        c.due("twice a day: worst(9, 0)", again.worst(9, 0), 90);
        c.due("twice a day: worst(9, 1)", again.worst(9, 1), 5);
        for (int hour = 0; hour < 24; hour++) {
            MarketSpring x = spring("t10" + (hour < 10 ? "0" : "") + hour + "01", 10, 200);
            c.due("from hour " + hour + " on: worst(1, 1)", x.worst(1, 1), hour);
        }
        MarketSpring none = spring("t010024", 0, 200);
        c.due("empty from the first: worst(1, 0)", none.worst(1, 0), 0);
        c.due("empty from the first: worst(1, 1)", none.worst(1, 1), 0);
    }
}
