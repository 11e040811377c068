/** The bounds of what could be, promises 21 to 24: a method for each sentence. */
public final class EdgeCouldTest {
    private static final int MOST = 1, START = 2, TIRE = 3, TOIL = 4, ASKED = 5;
    private static final Check c = new Check();

    public static void main(String[] args) {
        fewestDays();
        fewestNone();
        fewestOfLikeOnes();
        fewestBesides();
        fewestIsNeverNone();
        placeDays();
        placeOfLikeOnes();
        placeThatHasNone();
        placeAsTheyThenGo();
        placeOfNoTown();
        bestTwoDays();
        bestMustFirst();
        bestThenAll();
        bestLeastRow();
        bestShiftBounds();
        bestOthersStay();
        bestThreeAtMost();
        bestMayNotWait();
        bestWithoutThings();
        lastsBounds();
        c.end();
    }

    private static MarketSpring town(String text, int start) {
        MarketSpring x = Check.town(text);
        c.due("the text is well: " + text, x.fault(), -1);
        x.set(START, start);
        return x;
    }

    // ---- fewest

    private static void fewestDays() {
        c.about("21 FEWEST for a feast of so many days: such that in these days no THING STANDS");
        for (int days = 1; days <= 9; days++) {
            MarketSpring first = town("t110001", 11 * days);
            c.due("enough for " + days, first.fewest(days), 0);
            c.due("a day more", days < 9 ? first.fewest(days + 1) : 1, 1);
            first.set(START, 11 * days - 1);
            c.due("one too few for " + days, first.fewest(days), 1);
            MarketSpring last = town("t112301", 11 * days - 1);
            c.due("one too few in the last hour of " + days, last.fewest(days), 1);
            c.due("a day less", days > 1 ? last.fewest(days - 1) : 0, 0);
        }
        MarketSpring tenth = town("t110001", 99);
        c.due("it stands on day ten", tenth.lasts(), 216);
        c.due("fewest(9) is without it", tenth.fewest(9), 0);
        c.due("fewest(0)", tenth.fewest(0), -2);
        c.due("fewest(10)", tenth.fewest(10), -2);
    }

    private static void fewestNone() {
        c.about("FEWEST (0: none)");
        c.due("no things", new MarketSpring().fewest(1), 0);
        c.due("no things, nine days", new MarketSpring().fewest(9), 0);
        c.due("none stands", town("t100001;t200001", 30).fewest(1), 0);
        c.due("with a fault", Check.town("t400024;").fewest(9), 0);
    }

    private static void fewestOfLikeOnes() {
        c.about("FEWEST: the fewest, of like ones the least as bits");
        c.due("either one", town("t400001;t400001", 40).fewest(1), 1);
        c.due("two of three", town("t400001;t400001;t400001", 40).fewest(1), 3);
        c.due("the second alone", town("t300001;t400001", 30).fewest(1), 2);
        c.due("the last one ahead of both others", town("t100001;t100001;t200001", 20).fewest(1), 4);
        c.due("the second or the third", town("t100001;t200001;t200001", 30).fewest(1), 2);
        c.due("the first and the third", town("t400001;t100001;t400001", 10).fewest(1), 5);
        c.due("one that MUST", town("t400001!;t100001", 20).fewest(1), 1);
        String six = "t200001;t200001;t200001;t200001;t200001;t200001";
        int[] due = {63, 31, 15, 7, 3, 1, 0};
        for (int go = 0; go <= 6; go++) {
            c.due(go + " of six may go", town(six, 20 * go).fewest(1), due[go]);
        }
        c.due("the sixth alone", town("t010001;t010001;t010001;t010001;t010001;t400001", 5).fewest(1), 32);
    }

    private static void fewestBesides() {
        c.about("which THINGS to SHUT besides (those that are go on being so); never told");
        MarketSpring x = town("t400001;t300001;t200001", 20);
        c.due("none is shut", x.fewest(1), 3);
        x.shut(0, 1);
        c.due("the first is shut", x.fewest(1), 2);
        x.shut(1, 1);
        c.due("two are shut", x.fewest(1), 0);
        x.shut(2, 1);
        c.due("all are shut", x.fewest(9), 0);
        x.shut(0, 0);
        c.due("the first is open again", x.fewest(1), 1);
        for (int t = 0; t < 3; t++) {
            c.due("thing(" + t + ", 4) stays", x.thing(t, 4), t == 0 ? 0 : 1);
        }
        MarketSpring y = town("t400001;t400001", 40);
        y.shut(5, 1);
        c.due("one that is not there is shut", y.fewest(1), 1);
    }

    private static void fewestIsNeverNone() {
        c.about("NONE: with none of all sets (all SHUT, no THING STANDS)");
        MarketSpring x = town("t400024!;t400024!;t400024!;t400024!;t400024!;t400024!", 0);
        x.set(MOST, 1);
        x.set(TIRE, 99);
        c.due("all must be shut: fewest(9)", x.fewest(9), 63);
        for (int t = 0; t < 6; t++) {
            x.shut(t, 1);
        }
        c.due("all are: fewest(9)", x.fewest(9), 0);
    }

    // ---- place

    private static void placeDays() {
        c.about("22 the least LEVEL behind an hour of so many days");
        MarketSpring first = town("t050001", 100);
        MarketSpring last = town("t052301", 100);
        for (int days = 1; days <= 9; days++) {
            c.due("hour 0: place(" + days + ", 1)", first.place(days, 1), 100 - 5 * days);
            c.due("hour 23: place(" + days + ", 1)", last.place(days, 1), 100 - 5 * days);
        }
        for (int what = 0; what <= 1; what++) {
            c.due("place(0, " + what + ")", first.place(0, what), -2);
            c.due("place(10, " + what + ")", first.place(10, what), -2);
        }
        c.due("place(1, -1)", first.place(1, -1), -2);
        c.due("place(1, 2)", first.place(1, 2), -2);
        // what comes behind the days does no good in them
        MarketSpring late = town("t100024;g50223400;g09211200", 240);
        late.set(MOST, 999);
        late.set(TOIL, 0);
        c.due("one day: place(1, 0)", late.place(1, 0), 3);
        c.due("one day: place(1, 1)", late.place(1, 1), 20);
        late.wipe();
        Check.typeAll(late, "t100023;g50233400;g09211200");
        c.due("its last hour comes too late: place(1, 0)", late.place(1, 0), 1);
        c.due("its last hour comes too late: place(1, 1)", late.place(1, 1), 19);
    }

    private static void placeOfLikeOnes() {
        c.about("PLACE: is greatest, of like ones the least");
        MarketSpring none = town("t100010", 110);
        c.due("all alike: place(1, 0)", none.place(1, 0), 0);
        c.due("all alike: place(1, 1)", none.place(1, 1), 10);
        for (int street = 0; street <= 8; street++) {
            int other = (street + 1) % 9;
            MarketSpring x = town("t100210;g5001" + street + other + "09", 110);
            x.set(TOIL, 0);
            c.due("the one by which they go: " + street, x.place(1, 0), street);
            c.due("its level", x.place(1, 1), 60);
        }
        MarketSpring two = town("t100210;g50016709;g50013409", 110);
        two.set(TOIL, 0);
        c.due("3 and 6 do alike", two.place(1, 0), 3);
        two.wipe();
        Check.typeAll(two, "t100210;g51016709;g50013409");
        c.due("6 does one more", two.place(1, 0), 6);
        two.wipe();
        Check.typeAll(two, "t100210;g50016709;g51013409");
        c.due("3 does one more", two.place(1, 0), 3);
    }

    private static void placeThatHasNone() {
        c.about("PLACE: the STREET that has none; NONE: all have one");
        StringBuilder all = new StringBuilder();
        for (int street = 0; street <= 8; street++) {
            all.append(street == 0 ? "h" : ";h").append(street);
            MarketSpring x = town(all.toString(), 100);
            c.due((street + 1) + " have one: place(1, 0)", x.place(1, 0), street < 8 ? street + 1 : -1);
            c.due((street + 1) + " have one: place(1, 1)", x.place(1, 1), street < 8 ? 100 : -1);
        }
        c.due("the first has none", town("h8;h7;h6;h5;h4;h3;h2;h1", 100).place(9, 0), 0);
        MarketSpring level = town("h0;h1;h2;h3;h4;h5;h6;h7;t400024", 0);
        c.due("a least level of 0 is no NONE: place(1, 0)", level.place(1, 0), 8);
        c.due("a least level of 0 is no NONE: place(1, 1)", level.place(1, 1), 0);
    }

    private static void placeAsTheyThenGo() {
        c.about("PLACE (GROUPS going as they then do)");
        // a handle costs TOIL: as long as the second is dearer, they stay
        MarketSpring x = town("t100210;g50013403", 110);
        c.due("3 and 0 + 3: they stay", x.place(1, 0), 3);
        x.set(TOIL, 4);
        c.due("3 and 0 + 4: they turn away", x.place(1, 0), 0);
        c.due("so it does nothing", x.place(1, 1), 10);
        x.set(ASKED, 1);
        c.due("asked", x.place(1, 0), 3);
        c.due("asked: its level", x.place(1, 1), 60);
        // those who wind at 3 would have a handle in 4, too: they go as they would, by 4, and wind as well
        MarketSpring y = town("h3;t100210;g50013498", 110);
        y.set(ASKED, 1);
        c.due("nothing does more: place(1, 0)", y.place(1, 0), 0);
        c.due("nothing does more: place(1, 1)", y.place(1, 1), 60);
        c.due("no handle has come", y.count(1), 1);
        c.due("they go as they did", y.goes(0), 3);
    }

    private static void placeOfNoTown() {
        c.about("PLACE of an empty town");
        c.due("place(9, 0)", new MarketSpring().place(9, 0), 0);
        c.due("place(9, 1)", new MarketSpring().place(9, 1), 100);
        MarketSpring x = Check.town("h0;h1;");
        c.due("with a fault: place(9, 0)", x.place(9, 0), 0);
    }

    // ---- best

    private static void bestTwoDays() {
        c.about("23 BEST: in two days");
        int[] starts = {20, 19, 10, 9, 0};
        int[] due = {0, 1, 1, 2, 2};
        for (String hour : new String[] {"00", "23"}) {
            for (int k = 0; k < starts.length; k++) {
                MarketSpring must = town("t10" + hour + "01!", starts[k]);
                c.due("MUST at " + hour + ", START " + starts[k] + ": best(-1)", must.best(-1), due[k]);
                c.due("MUST at " + hour + ", START " + starts[k] + ": best(-2)", must.best(-2), due[k]);
                MarketSpring may = town("t10" + hour + "01", starts[k]);
                c.due("may wait, START " + starts[k] + ": best(-1)", may.best(-1), 0);
                c.due("may wait, START " + starts[k] + ": best(-2)", may.best(-2), due[k]);
            }
        }
        MarketSpring always = town("t400024!;t400024", 0);
        c.due("every hour: best(-1)", always.best(-1), 48);
        c.due("every hour: best(-2)", always.best(-2), 96);
        c.due("every hour: best(1)", always.best(1), 0);
    }

    private static void bestMustFirst() {
        c.about("23 BEST: MUST THINGS STAND the fewest hours, together");
        // 40 for one draw of the gate, or four of the mill: the gate must, so the mill comes behind it
        MarketSpring x = town("t100004;t400501!", 40);
        c.due("best(-1)", x.best(-1), 1);
        c.due("best(-2)", x.best(-2), 9);
        c.due("the mill draws ahead of the gate: best(0)", x.best(0), 6);
        MarketSpring y = town("t400501!;t100004", 40);
        c.due("the gate draws ahead of the mill: best(1)", y.best(1), 5);
        c.due("best(-1)", y.best(-1), 1);
        MarketSpring free = town("t100004;t400501", 40);
        c.due("neither must: best(-2)", free.best(-2), 6);
        c.due("neither must: best(0)", free.best(0), 0);
        // two that must are told together; at hour 6 the first has drawn, so the one of 40 stands
        MarketSpring together = town("t400001;t200501!;t200601!", 40);
        c.due("both go once: best(-1)", together.best(-1), 2);
        c.due("both go once: best(0)", together.best(0), 6);
    }

    private static void bestThenAll() {
        c.about("23 BEST: of like ones all THINGS");
        // what comes at hour 8 does not keep
        MarketSpring x = town("t100001;h1;g10081009", 0);
        x.set(TIRE, 99);
        c.due("best(-1)", x.best(-1), 0);
        c.due("best(-2)", x.best(-2), 0);
        c.due("best(0)", x.best(0), 8);
        x.set(START, 10);
        c.due("one hour less than the first row: best(0)", x.best(0), 8);
        c.due("one hour less than the first row: best(-2)", x.best(-2), 0);
        MarketSpring y = town("t400001!;t100001;h1;g10081009", 0);
        y.set(TIRE, 99);
        c.due("one that stands anyhow: best(-1)", y.best(-1), 2);
        c.due("one that stands anyhow: best(-2)", y.best(-2), 2);
        c.due("one that stands anyhow: best(1)", y.best(1), 8);
    }

    private static void bestLeastRow() {
        c.about("23 BEST: of like ones the least row (of SHIFTS, THING by THING)");
        MarketSpring x = town("t100001;t100001;t100001;h1;g10031009;g10071009;g10091009", 0);
        x.set(TIRE, 99);
        int[] due = {3, 7, 9};
        for (int t = 0; t < 3; t++) {
            c.due("best(" + t + ")", x.best(t), due[t]);
        }
        MarketSpring free = town("t010001;t010001;t010001", 100);
        for (int t = 0; t < 3; t++) {
            free.shift(t, 23 - t);
            c.due("all rows alike: best(" + t + ")", free.best(t), 0);
        }
        // the first one must leave hour 0 to the second, or take 5: (0, 5) is less than (5, 0)
        MarketSpring two = town("t100001;t100001;h1;g10001009;g10051009", 0);
        two.set(TIRE, 99);
        c.due("(0, 5): best(0)", two.best(0), 0);
        c.due("(0, 5): best(1)", two.best(1), 5);
    }

    private static void bestShiftBounds() {
        c.about("23 BEST: the SHIFT of a THING that may wait (0 to 23)");
        for (int from = 0; from < 24; from++) {
            String hour = (from < 10 ? "0" : "") + from;
            MarketSpring x = town("t10" + hour + "01;h1;g10001009", 0);
            x.set(TIRE, 99);
            c.due("from " + from + " to hour 0: best(0)", x.best(0), (24 - from) % 24);
            c.due("from " + from + " to hour 0: best(-2)", x.best(-2), 0);
        }
        MarketSpring last = town("t010001!;t010001!;t010001!;t010001!;t010001!;t100101;h1;g10001009", 999);
        c.due("thing 5 may wait: best(5)", last.best(5), 0);
        last.set(START, 0);
        last.set(TIRE, 99);
        c.due("thing 5: best(5) when all others draw in hour 0", last.best(5), 0);
        for (int t = 0; t < 5; t++) {
            last.shut(t, 1);
        }
        c.due("thing 5 alone: best(5)", last.best(5), 23);
    }

    private static void bestOthersStay() {
        c.about("23 BEST: all others as they are. It changes nothing");
        MarketSpring x = town("t100001!;t100001;h1;g10081009;g10161009", 0);
        x.set(TIRE, 99);
        c.due("the gate at 0 stands: best(-1)", x.best(-1), 2);
        c.due("best(1)", x.best(1), 8);
        x.shift(0, 8);
        x.shift(1, 5);
        c.due("the gate at 8 goes: best(-1)", x.best(-1), 0);
        c.due("best(1)", x.best(1), 16);
        c.due("best(-2)", x.best(-2), 0);
        x.shift(0, 16);
        c.due("the gate at 16: best(1)", x.best(1), 8);
        x.shut(0, 1);
        x.shift(0, 8);
        c.due("the gate is shut: best(1)", x.best(1), 8);
        c.due("the gate is shut: best(-1)", x.best(-1), 0);
        c.due("thing(0, 5) stays", x.thing(0, 5), 8);
        c.due("thing(1, 5) stays", x.thing(1, 5), 5);
        c.due("stood(1, 2) stays", x.stood(1, 2), 2);
    }

    private static void bestThreeAtMost() {
        c.about("23 BEST: THINGS that may wait (they MUST not, and are not SHUT; 3 at most: FULL)");
        String[] marks = {"", "!"};
        for (int bits = 0; bits < 64; bits++) {
            StringBuilder text = new StringBuilder();
            for (int t = 0; t < 6; t++) {
                text.append(t == 0 ? "" : ";").append("t010001").append(marks[bits >> t & 1]);
            }
            int waiting = 6 - Integer.bitCount(bits);
            MarketSpring x = Check.town(text.toString());
            c.due(waiting + " may wait: best(-1)", x.best(-1), waiting > 3 ? -4 : 0);
            c.due(waiting + " may wait: best(-2)", x.best(-2), waiting > 3 ? -4 : 0);
            for (int t = 0; t < 6; t++) {
                int due = waiting > 3 ? -4 : (bits >> t & 1) == 1 ? -3 : 0;
                c.due(waiting + " may wait: best(" + t + ")", x.best(t), due);
            }
            c.due(waiting + " may wait: best(6)", x.best(6), -2);
            c.due(waiting + " may wait: best(-3)", x.best(-3), -2);
        }
        MarketSpring shut = Check.town("t010001;t010001;t010001;t010001");
        c.due("four: best(0)", shut.best(0), -4);
        shut.shut(5, 1);
        c.due("one is shut that is not there: best(0)", shut.best(0), -4);
        shut.shut(3, 1);
        c.due("one of them is shut: best(0)", shut.best(0), 0);
        shut.shut(3, 0);
        c.due("open again: best(0)", shut.best(0), -4);
    }

    private static void bestMayNotWait() {
        c.about("23 NOT: it may not wait");
        MarketSpring x = Check.town("t010001!;t010001;t010001!");
        c.due("MUST: best(0)", x.best(0), -3);
        c.due("may wait: best(1)", x.best(1), 0);
        x.shut(1, 1);
        c.due("SHUT: best(1)", x.best(1), -3);
        c.due("none may wait: best(-1)", x.best(-1), 0);
        x.shut(2, 1);
        c.due("MUST and SHUT: best(2)", x.best(2), -3);
        c.due("no such thing: best(3)", x.best(3), -2);
    }

    private static void bestWithoutThings() {
        c.about("23 how many hours MUST THINGS STAND then (thing = NONE), all (-2)");
        MarketSpring x = new MarketSpring();
        c.due("no things: best(-1)", x.best(-1), 0);
        c.due("no things: best(-2)", x.best(-2), 0);
        c.due("no things: best(0)", x.best(0), -2);
        c.due("no things: best(-3)", x.best(-3), -2);
        MarketSpring shut = town("t400024!", 0);
        shut.shut(0, 1);
        c.due("it is shut: best(-1)", shut.best(-1), 0);
        c.due("it is shut: best(-2)", shut.best(-2), 0);
    }

    // ---- lasts

    private static void lastsBounds() {
        c.about("24 The hour in which some THING first STANDS (0 to 239); NONE");
        c.due("no things", new MarketSpring().lasts(), -1);
        c.due("at once", town("t010001", 0).lasts(), 0);
        c.due("in the last hour", town("t112301", 109).lasts(), 239);
        c.due("never", town("t112301", 110).lasts(), -1);
        c.due("the second thing first", town("t010001;t400501", 39).lasts(), 5);
        MarketSpring x = town("t010001;t400501", 39);
        x.shut(1, 1);
        c.due("it is shut", x.lasts(), -1);
        for (int day = 0; day < 10; day++) {
            c.due("on day " + day, town("t100001", 10 * day).lasts(), 24 * day);
        }
    }
}
