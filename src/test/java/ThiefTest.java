/** Promises 25 to 29: a thief. */
public final class ThiefTest {
    private static final Check c = new Check();

    public static void main(String[] args) {
        seenAndForget();
        unlike();
        thief();
        thiefKnowsChanges();
        robbed();
        c.end();
    }

    private static void seenAndForget() {
        MarketSpring x = new MarketSpring();
        c.due("25 seen(-1, 0)", x.seen(-1, 0), -2);
        c.due("25 seen(240, 0)", x.seen(240, 0), -2);
        c.due("25 seen(0, -1)", x.seen(0, -1), -2);
        c.due("25 seen(0, 1000)", x.seen(0, 1000), -2);
        c.due("25 seen(0, 0)", x.seen(0, 0), 1);
        c.due("25 seen(239, 999)", x.seen(239, 999), 2);
        c.due("25 seen twice alike", x.seen(239, 999), 3);
        c.due("25 seen twice unlike", x.seen(239, 998), 4);
        for (int n = 5; n <= 12; n++) {
            c.due("25 seen, number " + n, x.seen(n, n), n);
        }
        c.due("25 seen, number 13", x.seen(13, 13), -4);
        c.due("25 BAD ahead of FULL", x.seen(240, 13), -2);
        c.due("25 count(4)", x.count(4), 12);
        c.due("26 forget()", x.forget(), 12);
        c.due("26 forget() again", x.forget(), 0);
        c.due("26 count(4)", x.count(4), 0);
        c.due("25 seen behind it", x.seen(1, 1), 1);
        c.due("26 forget()", x.forget(), 1);
    }

    private static void unlike() {
        MarketSpring x = Check.town("t010024");
        c.due("27 unlike(), none seen", x.unlike(), 0);
        x.seen(0, 99);
        x.seen(9, 90);
        c.due("27 unlike(), as told", x.unlike(), 0);
        x.seen(9, 89);
        c.due("27 unlike(), one", x.unlike(), 1);
        x.seen(9, 89);
        c.due("27 unlike(), twice", x.unlike(), 2);
        x.seen(239, 0);
        c.due("27 unlike(), last hour", x.unlike(), 2);
        x.set(2, 99);
        c.due("27 unlike() when START is 99", x.unlike(), 2);
        x.set(2, 98);
        c.due("27 unlike() when START is 98", x.unlike(), 4);
        x.forget();
        c.due("27 unlike() behind forget()", x.unlike(), 0);
    }

    private static void thief() {
        MarketSpring x = Check.town("t020024");
        c.due("28 thief(0), none seen", x.thief(0), 960);
        c.due("28 thief(1), none seen", x.thief(1), 1);
        x.seen(4, 90);
        // not at hours 0 to 4
        c.due("28 thief(0), level as told at 4", x.thief(0), 19 * 40);
        c.due("28 thief(1)", x.thief(1), 501);
        x.seen(23, 12);
        // 100 - 48 is 52; 40 are gone
        c.due("28 thief(0), 40 gone by 23", x.thief(0), 19);
        c.due("28 thief(1)", x.thief(1), 540);
        x.seen(20, 18);
        c.due("28 thief(0), 40 gone by 20", x.thief(0), 16);
        x.seen(19, 60);
        c.due("28 thief(0), none gone by 19", x.thief(0), 1);
        c.due("28 thief(1)", x.thief(1), 2040);
        x.seen(19, 61);
        c.due("28 thief(0), two levels in one hour", x.thief(0), 0);
        c.due("28 thief(1), none", x.thief(1), -1);
        x.seen(19, 60);
        c.due("28 thief(0), still none", x.thief(0), 0);
        x.forget();
        c.due("28 thief(0) behind forget()", x.thief(0), 960);
        x.set(2, 30);
        x.seen(0, 0);
        // all, if there is less: 29 leaves 1, too little to draw
        c.due("28 thief(0), all is gone", x.thief(0), 12);
        c.due("28 thief(1), 28 leaves what is drawn", x.thief(1), 28);
        x.forget();
        x.seen(0, 1);
        c.due("28 thief(0), one left by 27 and by 29", x.thief(0), 2);
        c.due("28 thief(1), one left", x.thief(1), 27);
        c.due("28 thief(2)", x.thief(2), -2);
        c.due("28 thief(-1)", x.thief(-1), -2);
        x.forget();
        x.set(2, 200);
        x.seen(239, 0);
        int[] due = {0, MarketSpring.NONE};
        for (int hour = 0; hour < 24; hour++) {
            for (int v = 1; v <= 40; v++) {
                if (x.robbed(hour, v, 239) == 0) {
                    due[1] = due[0] == 0 ? 100 * hour + v : due[1];
                    due[0]++;
                }
            }
        }
        c.due("28 thief(0) by robbed()", x.thief(0), due[0]);
        c.due("28 thief(1) by robbed()", x.thief(1), due[1]);
    }

    private static void thiefKnowsChanges() {
        MarketSpring x = Check.town("t020024");
        x.seen(0, 97);
        c.due("28 thief(1)", x.thief(1), 1);
        c.due("28 thief(0)", x.thief(0), 1);
        x.set(2, 101);
        c.due("28 thief(1), START 101", x.thief(1), 2);
        x.shut(0, 1);
        c.due("28 thief(1), shut", x.thief(1), 4);
        x.shut(0, 0);
        x.wipe();
        c.due("28 thief(1), wiped", x.thief(1), 4);
        Check.typeAll(x, "t010101");
        c.due("28 thief(1), typed", x.thief(1), 4);
        x.shift(0, 23);
        c.due("28 thief(1), shifted", x.thief(1), 3);
        x.seen(24, 93);
        c.due("28 thief(0), seen a day later", x.thief(0), 1);
        x.seen(48, 88);
        c.due("28 thief(0), seen wrong", x.thief(0), 0);
    }

    private static void robbed() {
        MarketSpring x = Check.town("t100801;h1;g50081009");
        x.set(1, 110);
        // ahead of what is WOUND: that fills up what was taken
        c.due("29 robbed(8, 40, 7)", x.robbed(8, 40, 7), 100);
        c.due("29 robbed(8, 40, 8)", x.robbed(8, 40, 8), 100);
        c.due("29 robbed(7, 40, 7)", x.robbed(7, 40, 7), 60);
        c.due("29 robbed(7, 40, 8)", x.robbed(7, 40, 8), 100);
        c.due("29 robbed(9, 40, 9)", x.robbed(9, 40, 9), 60);
        c.due("29 robbed(9, 40, 32)", x.robbed(9, 40, 32), 100);
        c.due("29 robbed(9, 0, 239)", x.robbed(9, 0, 239), 100);
        c.due("29 level() stays", x.level(9, 0), 100);
        x.set(2, 15);
        c.due("29 robbed(0, 16, 0), all", x.robbed(0, 16, 0), 0);
        c.due("29 robbed(0, 14, 0)", x.robbed(0, 14, 0), 1);
        c.due("29 robbed(23, 1, 239)", x.robbed(23, 1, 239), 99);
        c.due("29 robbed(-1, 0, 0)", x.robbed(-1, 0, 0), -2);
        c.due("29 robbed(24, 0, 0)", x.robbed(24, 0, 0), -2);
        c.due("29 robbed(0, -1, 0)", x.robbed(0, -1, 0), -2);
        c.due("29 robbed(0, 41, 0)", x.robbed(0, 41, 0), -2);
        c.due("29 robbed(0, 0, -1)", x.robbed(0, 0, -1), -2);
        c.due("29 robbed(0, 0, 240)", x.robbed(0, 0, 240), -2);
    }
}
