/** Promises 12 to 20: ways and days. */
public final class DaysTest {
    private static final Check c = new Check();

    public static void main(String[] args) {
        goes();
        toil();
        wound();
        level();
        tireAndChain();
        stands();
        stood();
        lost();
        flow();
        worst();
        fewerThanBefore();
        c.end();
    }

    private static void goes() {
        // streets 1 and 2, handle in 2 (TOIL 3): first no dearer, second cheaper, second no cheaper
        MarketSpring x = Check.town("h2;g10081254;g10081252;g10081251;g10082152;g10082153;g10083454");
        c.due("12 goes(0): 5 and 4 + 3", x.goes(0), 1);
        c.due("12 goes(1): 5 and 2 + 3, like", x.goes(1), 1);
        c.due("12 goes(2): 5 and 1 + 3", x.goes(2), 2);
        c.due("12 goes(3): 5 + 3 and 2", x.goes(3), 1);
        c.due("12 goes(4): 5 + 3 and 3", x.goes(4), 1);
        c.due("12 goes(5): 5 and 4", x.goes(5), 4);
        x.set(5, 1);
        c.due("12 asked goes(0)", x.goes(0), 2);
        c.due("12 asked goes(3)", x.goes(3), 2);
        c.due("12 asked goes(5), none has one", x.goes(5), 4);
        MarketSpring both = Check.town("h1;h2;g10081254;g10081245");
        both.set(5, 1);
        c.due("12 asked, both have one: goes(0)", both.goes(0), 2);
        c.due("12 asked, both have one: goes(1)", both.goes(1), 1);
        x.set(5, 0);
        x.set(4, 0);
        c.due("12 no toil goes(0)", x.goes(0), 2);
        c.due("12 goes(-1)", x.goes(-1), -2);
        c.due("12 goes(6)", x.goes(6), -2);
    }

    private static void toil() {
        MarketSpring x = Check.town("h2;g10081254;g07092152");
        c.due("13 toil(0)", x.toil(0), 10 * 5 + 7 * 2);
        c.due("13 toil(1)", x.toil(1), 10 * 7 + 7 * 8);
        x.set(5, 1);
        c.due("13 toil(0), asked or not", x.toil(0), 64);
        x.set(4, 9);
        c.due("13 toil(1), TOIL 9", x.toil(1), 10 * 13 + 7 * 14);
        c.due("13 toil(2)", x.toil(2), -2);
        c.due("13 toil(-1)", x.toil(-1), -2);
    }

    private static void wound() {
        MarketSpring x = Check.town("h2;g10082154;g07082109;g09092109;g05081211");
        c.due("14 wound(8)", x.wound(8), 7);
        x.set(0, 4);
        c.due("14 wound(8), GIVE 4", x.wound(8), 28);
        c.due("14 wound(9)", x.wound(9), 36);
        c.due("14 wound(7)", x.wound(7), 0);
        x.set(5, 1);
        c.due("14 wound(8), asked", x.wound(8), 4 * (10 + 7 + 5));
        c.due("14 wound(0)", x.wound(0), 0);
        c.due("14 wound(23)", x.wound(23), 0);
        c.due("14 wound(24)", x.wound(24), -2);
        c.due("14 wound(-1)", x.wound(-1), -2);
        c.due("14 count(7)", x.count(7), 4 * (10 + 7 + 5 + 9));
    }

    private static void level() {
        MarketSpring x = Check.town("t100802!;t050803;h1;g30081009");
        c.due("15 level(7, 0)", x.level(7, 0), 100);
        c.due("15 level(8, 0)", x.level(8, 0), 115);
        c.due("15 level(9, 0)", x.level(9, 0), 100);
        c.due("15 level(10, 0)", x.level(10, 0), 95);
        c.due("15 level(239, 0)", x.level(239, 0), 50);
        x.set(1, 99);
        c.due("15 START above MOST: level(0, 0)", x.level(0, 0), 99);
        c.due("15 MOST 99: level(8, 0)", x.level(8, 0), 84);
        x.set(2, 3);
        c.due("15 START 3: level(7, 0)", x.level(7, 0), 3);
        c.due("15 START 3: level(8, 0)", x.level(8, 0), 18);
        c.due("15 START 3: level(9, 0)", x.level(9, 0), 3);
        c.due("15 START 3: level(10, 0)", x.level(10, 0), 3);
        x.set(7, 50);
        x.set(8, 4);
        c.due("15 level(0, 1)", x.level(0, 1), 46);
        c.due("15 level(11, 1)", x.level(11, 1), 2);
        c.due("15 level(12, 1), all of it", x.level(12, 1), 0);
        c.due("15 DRAIN comes to no LEVEL", x.level(7, 0), 3);
        c.due("15 level(-1, 0)", x.level(-1, 0), -2);
        c.due("15 level(240, 0)", x.level(240, 0), -2);
        c.due("15 level(0, 2)", x.level(0, 2), -2);
        c.due("15 level(0, -1)", x.level(0, -1), -2);
        MarketSpring order = Check.town("t300001;t300001;t100001");
        order.set(2, 40);
        c.due("15 told order: level(0, 0)", order.level(0, 0), 0);
    }

    private static void tireAndChain() {
        MarketSpring x = new MarketSpring();
        x.set(3, 7);
        c.due("15 TIRE 7: level(0, 0)", x.level(0, 0), 93);
        c.due("15 TIRE 7, cut: level(1, 0)", x.level(1, 0), 87);
        x.set(3, 99);
        c.due("15 TIRE 99: level(0, 0)", x.level(0, 0), 1);
        c.due("15 TIRE 99, cut: level(1, 0)", x.level(1, 0), 1);
        x.set(3, 7);
        x.set(6, 10);
        c.due("15 chain: level(0, 0)", x.level(0, 0), 83);
        c.due("15 chain: level(0, 1)", x.level(0, 1), 10);
        c.due("15 chain: level(1, 0)", x.level(1, 0), 68);
        x.set(3, 0);
        x.set(2, 5);
        x.set(6, 99);
        c.due("15 half, cut: level(0, 0)", x.level(0, 0), 3);
        c.due("15 half, cut: level(0, 1)", x.level(0, 1), 2);
        x.set(2, 0);
        x.set(7, 5);
        c.due("15 half, cut, back: level(0, 0)", x.level(0, 0), 2);
        c.due("15 half, cut, back: level(0, 1)", x.level(0, 1), 3);
        x.set(2, 20);
        x.set(7, 60);
        c.due("15 half the difference: level(0, 0)", x.level(0, 0), 40);
        c.due("15 half the difference: level(0, 1)", x.level(0, 1), 40);
        x.set(1, 50);
        x.set(2, 45);
        x.set(7, 200);
        c.due("15 no more than room: level(0, 0)", x.level(0, 0), 50);
        c.due("15 no more than room: level(0, 1)", x.level(0, 1), 195);
        c.due("15 full: level(1, 1)", x.level(1, 1), 195);
    }

    private static void stands() {
        MarketSpring x = Check.town("t300102!;t200003");
        x.set(2, 60);
        int[][] due = {{0, 0, 1, 0}, {0, 1, 1, 0}};
        // 60: second draws, 40; first draws, 10, second stands; both stand
        for (int t = 0; t < 2; t++) {
            for (int h = 0; h < 4; h++) {
                c.due("16 stands(" + t + ", " + h + ")", x.stands(t, h), due[t][h]);
            }
        }
        c.due("16 stands(0, 217)", x.stands(0, 217), 1);
        c.due("16 stands(0, 219)", x.stands(0, 219), 0);
        c.due("16 stands(0, 239)", x.stands(0, 239), 0);
        c.due("16 stands(2, 0)", x.stands(2, 0), -2);
        c.due("16 stands(-1, 0)", x.stands(-1, 0), -2);
        c.due("16 stands(0, 240)", x.stands(0, 240), -2);
        c.due("16 stands(0, -1)", x.stands(0, -1), -2);
        MarketSpring just = Check.town("t400001");
        just.set(2, 40);
        c.due("16 NEED is just there", just.stands(0, 0), 0);
        just.set(2, 39);
        c.due("16 NEED is not quite there", just.stands(0, 0), 1);
        c.due("16 it draws nothing", just.level(0, 0), 39);
    }

    private static void stood() {
        MarketSpring x = Check.town("t300102!;t200003");
        x.set(2, 60);
        c.due("17 stood(0, 1)", x.stood(0, 1), 1);
        c.due("17 stood(1, 1)", x.stood(1, 1), 2);
        c.due("17 stood(0, 2)", x.stood(0, 2), 3);
        c.due("17 stood(1, 2)", x.stood(1, 2), 5);
        c.due("17 stood(1, 9)", x.stood(1, 9), 26);
        x.set(2, 19);
        c.due("17 from hour 0 on: stood(1, 1)", x.stood(1, 1), 3);
        x.set(2, 60);
        c.due("17 stood(0, 0)", x.stood(0, 0), -2);
        c.due("17 stood(0, 10)", x.stood(0, 10), -2);
        c.due("17 stood(2, 1)", x.stood(2, 1), -2);
        c.due("17 stood(-1, 1)", x.stood(-1, 1), -2);
    }

    private static void lost() {
        MarketSpring x = Check.town("t101001;h1;g30081009;g90091009");
        x.set(1, 110);
        c.due("18 lost(1)", x.lost(1), 20 + 90);
        c.due("18 lost(2)", x.lost(2), 110 + 20 + 90);
        c.due("18 lost(9)", x.lost(9), 110 * 9);
        x.set(1, 500);
        c.due("18 lost(3), room", x.lost(3), 0);
        MarketSpring y = Check.town("h1;g30001009;g05231009");
        y.set(1, 100);
        c.due("18 from hour 0 to 23", y.lost(1), 35);
        c.due("18 two days", y.lost(2), 70);
        c.due("18 lost(0)", x.lost(0), -2);
        c.due("18 lost(10)", x.lost(10), -2);
    }

    private static void flow() {
        MarketSpring x = new MarketSpring();
        x.set(6, 20);
        c.due("19 flow(0)", x.flow(0), -20);
        c.due("19 flow(1)", x.flow(1), -20);
        c.due("19 flow(2)", x.flow(2), -10);
        c.due("19 flow(3)", x.flow(3), 0);
        x.set(7, 300);
        c.due("19 flow(0), to LEVEL", x.flow(0), 20);
        c.due("19 flow(5), half", x.flow(5), 0);
        c.due("19 flow(4), LINK", x.flow(4), 20);
        x.set(1, 105);
        c.due("19 flow(0), room", x.flow(0), 5);
        c.due("19 flow(1), no room", x.flow(1), 0);
        c.due("19 flow(239)", x.flow(239), 0);
        c.due("19 flow(-1)", x.flow(-1), -10002);
        c.due("19 flow(240)", x.flow(240), -10002);
    }

    private static void worst() {
        MarketSpring x = Check.town("t300502;h1;g30071009");
        c.due("20 worst(1, 0)", x.worst(1, 0), 40);
        c.due("20 worst(1, 1)", x.worst(1, 1), 6);
        c.due("20 worst(2, 0)", x.worst(2, 0), 10);
        c.due("20 worst(2, 1)", x.worst(2, 1), 30);
        c.due("20 worst(9, 0)", x.worst(9, 0), 10);
        c.due("20 worst(9, 1)", x.worst(9, 1), 30);
        x.set(1, 999);
        x.set(2, 999);
        x.set(8, 1);
        c.due("20 worst(9, 0), MOST 999", x.worst(9, 0), 699);
        c.due("20 worst(9, 1), MOST 999", x.worst(9, 1), 198);
        c.due("20 worst(0, 0)", x.worst(0, 0), -2);
        c.due("20 worst(10, 0)", x.worst(10, 0), -2);
        c.due("20 worst(1, 2)", x.worst(1, 2), -2);
        c.due("20 worst(1, -1)", x.worst(1, -1), -2);
        MarketSpring ends = Check.town("t100101;t202301;h1;g90021009;g90121009;t010001");
        ends.set(1, 100);
        c.due("20 worst(1, 1), its last hour", ends.worst(1, 1), 23);
        c.due("20 worst(1, 0), not an hour later", ends.worst(1, 0), 80);
        ends.shut(1, 1);
        c.due("20 worst(1, 1), hour 1", ends.worst(1, 1), 1);
        c.due("20 worst(1, 0), hour 1", ends.worst(1, 0), 89);
        MarketSpring full = new MarketSpring();
        full.set(1, 999);
        full.set(2, 999);
        c.due("20 worst of a full spring", full.worst(9, 0), 999);
        c.due("20 its hour", full.worst(9, 1), 0);
    }

    /** What an earlier text told must not show behind the last part of a later one. */
    private static void fewerThanBefore() {
        MarketSpring x = Check.town("t100024!;t100024!;h1;g30081009;g30081009;g30081009");
        c.due("13 toil(0), three groups", x.toil(0), 270);
        c.due("14 wound(8), three groups", x.wound(8), 90);
        x.wipe();
        Check.typeAll(x, "t100024;h1;g30081009");
        c.due("13 toil(0), one group", x.toil(0), 90);
        c.due("14 wound(8), one group", x.wound(8), 30);
        c.due("15 level(8, 0), one of each", x.level(8, 0), 40);
        c.due("36 count(5), one group", x.count(5), 30);
        c.due("36 count(6), no MUST", x.count(6), 0);
        c.due("36 count(7), one group", x.count(7), 30);
        MarketSpring most = Check.town("t010024;t010024;t010024;t010024;t010024;t010024;h1;h2");
        c.due("15 six things: level(9, 0)", most.level(9, 0), 40);
        c.due("16 six things: stands(5, 16)", most.stands(5, 16), 1);
        c.due("16 six things: stands(3, 16)", most.stands(3, 16), 0);
        most.wipe();
        Check.typeAll(most, "h1;g01081009;g02081009;g03081009;g04081009;g05081009;g06081009;g07081009;g08081009");
        c.due("14 eight groups: wound(8)", most.wound(8), 36);
        c.due("15 eight groups: level(8, 0)", most.level(8, 0), 136);
        c.due("13 eight groups: toil(1)", most.toil(1), 108);
    }
}
