/** Promises 21 to 24: what could be. */
public final class CouldTest {
    private static final Check c = new Check();

    public static void main(String[] args) {
        fewest();
        place();
        best();
        bestRefusals();
        bestOfThree();
        lasts();
        c.end();
    }

    private static void fewest() {
        MarketSpring x = Check.town("t100001!;t200101;t300201");
        c.due("21 fewest(1), none", x.fewest(1), 0);
        c.due("21 fewest(2), the first alone leaves just enough", x.fewest(2), 1);
        x.set(2, 60);
        c.due("21 fewest(1), just enough", x.fewest(1), 0);
        c.due("21 fewest(2), the third alone", x.fewest(2), 4);
        c.due("21 fewest(3), the second may stay", x.fewest(3), 5);
        c.due("21 fewest(9), all", x.fewest(9), 7);
        x.shut(2, 1);
        c.due("21 fewest(2), the third is shut", x.fewest(2), 0);
        c.due("21 fewest(3), the third is never told", x.fewest(3), 1);
        c.due("21 fewest(9)", x.fewest(9), 3);
        c.due("21 nothing is changed", x.thing(0, 4) + 2 * x.thing(1, 4) + 4 * x.thing(2, 4), 4);
        c.due("21 nothing is changed: level", x.level(23, 0), 30);
        c.due("21 fewest(0)", x.fewest(0), -2);
        c.due("21 fewest(10)", x.fewest(10), -2);
        MarketSpring like = Check.town("t400001;t400001;t400001");
        like.set(2, 80);
        c.due("21 of like ones the least", like.fewest(1), 1);
        MarketSpring few = Check.town("t200001;t200001;t400001");
        few.set(2, 40);
        c.due("21 fewest ahead of least", few.fewest(1), 4);
        c.due("21 of an empty town", new MarketSpring().fewest(9), 0);
    }

    private static void place() {
        MarketSpring x = Check.town("t100024;g40022344;g60044533");
        x.set(4, 0);
        x.set(2, 150);
        // groups go by 2 and 4; 60 at hour 4 do more over a day than 40 at hour 2
        c.due("22 place(1, 0), all come to 0", x.place(1, 0), 0);
        c.due("22 place(1, 1)", x.place(1, 1), 0);
        MarketSpring y = Check.town("t100010;g40022344;g60044533");
        y.set(4, 0);
        c.due("22 place(1, 0)", y.place(1, 0), 4);
        c.due("22 place(1, 1)", y.place(1, 1), 60);
        c.due("22 place(2, 0)", y.place(2, 0), 4);
        c.due("22 place(2, 1)", y.place(2, 1), 20);
        y.set(4, 1);
        // with toil both groups turn away, unless they are asked
        c.due("22 groups go as they then do", y.place(1, 0), 0);
        c.due("22 so the level is as before", y.place(1, 1), 0);
        y.set(5, 1);
        c.due("22 asked: either street", y.place(1, 0), 4);
        c.due("22 asked", y.place(1, 1), 60);
        c.due("22 nothing is changed", y.level(9, 0), 0);
        c.due("22 nothing is changed: handles", y.count(1), 0);
        MarketSpring like = Check.town("h0;h1;t100010");
        c.due("22 of like ones the least that has none", like.place(1, 0), 2);
        like.set(2, 110);
        c.due("22 least level", like.place(1, 1), 10);
        MarketSpring all = Check.town("h0;h1;h2;h3;h4;h5;h6;h7;h8");
        c.due("22 all have one", all.place(1, 0), -1);
        c.due("22 all have one: level", all.place(1, 1), -1);
        MarketSpring last = Check.town("h0;h1;h2;h3;h4;h5;h6;h7");
        c.due("22 the last has none", last.place(9, 0), 8);
        c.due("22 place(0, 0)", y.place(0, 0), -2);
        c.due("22 place(10, 0)", y.place(10, 0), -2);
        c.due("22 place(1, 2)", y.place(1, 2), -2);
        c.due("22 place(1, -1)", y.place(1, -1), -2);
    }

    private static void best() {
        // 110 in two days for 140: the gate goes twice if the lamps come to too little, from hour 3 on
        MarketSpring x = Check.town("t300001;t400201!;h1;g30081009");
        x.set(2, 50);
        x.set(1, 60);
        c.due("23 best(-1)", x.best(-1), 0);
        c.due("23 best(-2)", x.best(-2), 2);
        c.due("23 best(0)", x.best(0), 3);
        c.due("23 it changes nothing", x.thing(0, 5), 0);
        c.due("23 it changes nothing: stood", x.stood(1, 2), 2);
        x.shift(0, 8);
        c.due("23 best(0), whatever its shift is", x.best(0), 3);
        x.shift(1, 21);
        c.due("23 others as they are: best(0)", x.best(0), 0);
        c.due("23 others as they are: best(-1)", x.best(-1), 0);
        c.due("23 others as they are: best(-2)", x.best(-2), 1);
        x.set(2, 30);
        c.due("23 START 30: the gate stands either way", x.best(-1), 2);
        MarketSpring y = Check.town("t400001!;t100001;t050001!");
        y.set(2, 40);
        c.due("23 MUST stand: best(-1)", y.best(-1), 3);
        c.due("23 all stand: best(-2)", y.best(-2), 5);
        c.due("23 least row", y.best(1), 0);
        MarketSpring z = Check.town("t300001;t300501!;t100301");
        z.set(2, 40);
        // only 40 in two days: the MUST thing goes once, the third once; the first comes behind the MUST
        c.due("23 fewest MUST: best(-1)", z.best(-1), 1);
        c.due("23 then fewest of all: best(-2)", z.best(-2), 4);
        c.due("23 then the least row: best(0)", z.best(0), 6);
        c.due("23 then the least row: best(2)", z.best(2), 0);
    }

    private static void bestRefusals() {
        MarketSpring x = Check.town("t010001;t010001!;t010001;t010001");
        c.due("23 best(0), three wait", x.best(0), 0);
        c.due("23 best(1), MUST", x.best(1), -3);
        c.due("23 best(4)", x.best(4), -2);
        c.due("23 best(0), MUST", Check.town("t010001!;t010001").best(0), -3);
        c.due("23 best(-3)", x.best(-3), -2);
        x.shut(2, 1);
        c.due("23 best(2), SHUT", x.best(2), -3);
        x.shut(2, 0);
        Check.typeAll(x, ";t010001");
        c.due("23 four wait: best(0)", x.best(0), -4);
        c.due("23 four wait: best(-1)", x.best(-1), -4);
        c.due("23 four wait: best(-2)", x.best(-2), -4);
        c.due("23 four wait: best(1), FULL ahead of NOT", x.best(1), -4);
        c.due("23 four wait: best(5), BAD ahead of FULL", x.best(5), -2);
        c.due("23 four wait: best(-3)", x.best(-3), -2);
        x.shut(3, 1);
        c.due("23 one is shut: best(0)", x.best(0), 0);
        c.due("23 one is shut: best(3)", x.best(3), -3);
        MarketSpring none = new MarketSpring();
        c.due("23 empty: best(-1)", none.best(-1), 0);
        c.due("23 empty: best(-2)", none.best(-2), 0);
        c.due("23 empty: best(0)", none.best(0), -2);
        MarketSpring must = Check.town("t400024!");
        c.due("23 none waits: best(-1)", must.best(-1), 46);
        c.due("23 none waits: best(-2)", must.best(-2), 46);
    }

    /** Room for one draw an hour, ten wound each hour: rows are compared THING by THING. */
    private static void bestOfThree() {
        MarketSpring x = Check.town("t100001;t100001;t100001;h1;g10001009;g10021009;g10051009");
        x.set(1, 10);
        x.set(2, 0);
        c.due("23 three: best(-2)", x.best(-2), 0);
        c.due("23 three: best(0)", x.best(0), 0);
        c.due("23 three: best(1)", x.best(1), 2);
        c.due("23 three: best(2)", x.best(2), 5);
        x.shut(0, 1);
        c.due("23 others wait: best(1)", x.best(1), 0);
        c.due("23 others wait: best(2)", x.best(2), 2);
        x.shut(1, 1);
        c.due("23 one waits: best(2)", x.best(2), 0);
        x.shut(0, 0);
        c.due("23 others wait: best(0)", x.best(0), 0);
        c.due("23 others wait: best(2)", x.best(2), 2);
        x.shut(1, 0);
        x.set(1, 20);
        c.due("23 three, MOST 20: best(1)", x.best(1), 2);
        c.due("23 three, MOST 20: best(2)", x.best(2), 5);
    }

    private static void lasts() {
        MarketSpring x = Check.town("t100501!;t300601");
        c.due("24 lasts()", x.lasts(), 54);
        x.shut(1, 1);
        c.due("24 lasts() without the second", x.lasts(), -1);
        x.set(2, 90);
        c.due("24 lasts() on the last day", x.lasts(), 221);
        x.shut(0, 1);
        c.due("24 lasts(), all shut", x.lasts(), -1);
        x.shut(0, 0);
        x.set(2, 0);
        x.shift(0, 19);
        c.due("24 lasts(), at once", x.lasts(), 0);
    }
}
