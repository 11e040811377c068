/** The bounds of what was SEEN and of a thief, promises 25 to 29: a method for each sentence. */
public final class EdgeThiefTest {
    private static final int MOST = 1, START = 2;
    private static final Check c = new Check();

    public static void main(String[] args) {
        seenBounds();
        twelveSeen();
        forgotten();
        unlikeBounds();
        thiefOfNoneSeen();
        thiefTakes();
        thiefTakesAll();
        thiefHours();
        thiefEachDay();
        thiefAheadOfWinding();
        thiefAllLevels();
        thiefFirst();
        thiefWhat();
        robbedBounds();
        robbedOfNothing();
        c.end();
    }

    private static void seenBounds() {
        c.about("25 A LEVEL was SEEN (0 to 999) behind an hour");
        int[][] good = {{0, 0}, {239, 999}, {0, 999}, {239, 0}};
        int[][] bad = {{-1, 0}, {240, 0}, {0, -1}, {0, 1000}, {-1, 1000}, {240, -1}};
        for (int[] g : good) {
            c.due("seen(" + g[0] + ", " + g[1] + ")", new MarketSpring().seen(g[0], g[1]), 1);
        }
        for (int[] b : bad) {
            MarketSpring x = new MarketSpring();
            c.due("seen(" + b[0] + ", " + b[1] + ")", x.seen(b[0], b[1]), -2);
            c.due("none is SEEN", x.count(4), 0);
        }
        MarketSpring x = new MarketSpring();
        x.seen(0, 100);
        x.seen(239, 100);
        c.due("the first and the last hour are looked at: unlike()", x.unlike(), 0);
        x.set(START, 99);
        c.due("both are unlike", x.unlike(), 2);
        x.forget();
        x.set(MOST, 999);
        x.set(START, 999);
        x.seen(239, 999);
        c.due("999 is like", x.unlike(), 0);
        x.set(START, 0);
        c.due("999 is unlike", x.unlike(), 1);
        x.forget();
        x.seen(0, 0);
        c.due("0 is like", x.unlike(), 0);
    }

    private static void twelveSeen() {
        c.about("25 how many; SEEN (12 at most): FULL");
        MarketSpring x = new MarketSpring();
        for (int n = 1; n <= 12; n++) {
            c.due("number " + n, x.seen(7, 100), n);
            c.due("count(4)", x.count(4), n);
        }
        c.due("number 13", x.seen(7, 99), -4);
        c.due("count(4)", x.count(4), 12);
        c.due("it is not among them: unlike()", x.unlike(), 0);
        c.due("nor for a thief: thief(0)", x.thief(0), 16 * 40);
        c.due("forget()", x.forget(), 12);
        c.due("room again", x.seen(7, 99), 1);
        MarketSpring last = new MarketSpring();
        for (int n = 0; n < 11; n++) {
            last.seen(7, 100);
        }
        last.seen(8, 99);
        c.due("the twelfth counts: unlike()", last.unlike(), 1);
        c.due("the twelfth counts: thief(0)", last.thief(0), 1);
        c.due("the twelfth counts: thief(1)", last.thief(1), 801);
    }

    private static void forgotten() {
        c.about("26 What was SEEN is forgotten: how many");
        MarketSpring x = new MarketSpring();
        c.due("none", x.forget(), 0);
        for (int n = 1; n <= 12; n++) {
            for (int k = 0; k < n; k++) {
                x.seen(k, 0);
            }
            c.due("forget() of " + n, x.forget(), n);
            c.due("forget() again", x.forget(), 0);
            c.due("count(4)", x.count(4), 0);
            c.due("unlike()", x.unlike(), 0);
        }
        c.due("thief(0)", x.thief(0), 960);
    }

    private static void unlikeBounds() {
        c.about("27 How many SEEN are unlike LEVEL as told, without a thief");
        MarketSpring x = new MarketSpring();
        c.due("none SEEN", x.unlike(), 0);
        for (int n = 1; n <= 12; n++) {
            x.seen(20 * n - 1, n % 2 == 0 ? 99 : 101);
            c.due(n + " are unlike", x.unlike(), n);
        }
        x.set(START, 99);
        c.due("those of 99 are like", x.unlike(), 6);
        x.set(START, 101);
        c.due("those of 101 are like", x.unlike(), 6);
    }

    private static void thiefOfNoneSeen() {
        c.about("28 how many such (hour and v)");
        MarketSpring x = new MarketSpring();
        c.due("none SEEN: thief(0)", x.thief(0), 24 * 40);
        c.due("none SEEN: thief(1)", x.thief(1), 1);
    }

    private static void thiefTakes() {
        c.about("THIEF: who takes v (1 to 40)");
        // all is as told behind hour 22 and v is gone behind hour 23
        for (int v = 0; v <= 42; v++) {
            MarketSpring x = new MarketSpring();
            x.seen(22, 100);
            x.seen(23, 100 - v);
            boolean may = v >= 1 && v <= 40;
            c.due(v + " is gone: thief(0)", x.thief(0), may ? 1 : 0);
            c.due(v + " is gone: thief(1)", x.thief(1), may ? 2300 + v : -1);
        }
        MarketSpring more = new MarketSpring();
        more.seen(0, 101);
        c.due("none brings: thief(0)", more.thief(0), 0);
    }

    private static void thiefTakesAll() {
        c.about("THIEF: or all, if there is less");
        for (int start : new int[] {0, 1, 2, 39, 40, 41}) {
            MarketSpring x = new MarketSpring();
            x.set(START, start);
            x.seen(0, 0);
            // at hour 0 all that is there or more; at later hours only of an empty spring
            int due = start == 0 ? 960 : Math.max(0, 41 - start);
            c.due("START " + start + ": thief(0)", x.thief(0), due);
            c.due("START " + start + ": thief(1)", x.thief(1), due == 0 ? -1 : Math.max(1, start));
            c.due("START " + start + ": robbed(0, 40, 0)", x.robbed(0, 40, 0), Math.max(0, start - 40));
        }
    }

    private static void thiefHours() {
        c.about("THIEF: at one hour of each day");
        for (int hour = 0; hour < 24; hour++) {
            MarketSpring x = new MarketSpring();
            if (hour > 0) {
                x.seen(hour - 1, 100);
            }
            x.seen(hour, 93);
            c.due("at hour " + hour + ": thief(0)", x.thief(0), 1);
            c.due("at hour " + hour + ": thief(1)", x.thief(1), 100 * hour + 7);
        }
    }

    private static void thiefEachDay() {
        c.about("THIEF: at one hour of each day");
        MarketSpring x = new MarketSpring();
        for (int day = 0; day < 10; day++) {
            c.due("first hour: robbed(0, 3, ..) on day " + day, x.robbed(0, 3, 24 * day), 97 - 3 * day);
            c.due("last hour: robbed(23, 3, ..) on day " + day, x.robbed(23, 3, 24 * day + 23), 97 - 3 * day);
            c.due("an hour ahead of it on day " + day, x.robbed(23, 3, 24 * day + 22), 100 - 3 * day);
        }
        x.seen(239, 70);
        c.due("three each day: thief(0)", x.thief(0), 24);
        c.due("three each day: thief(1)", x.thief(1), 3);
        x.seen(238, 73);
        c.due("in the last hour: thief(0)", x.thief(0), 1);
        c.due("in the last hour: thief(1)", x.thief(1), 2303);
        x.seen(216, 74);
        c.due("not so on day ten: thief(0)", x.thief(0), 0);
    }

    private static void thiefAheadOfWinding() {
        c.about("THIEF: ahead of what is WOUND");
        MarketSpring x = Check.town("h1;g10051009");
        x.set(MOST, 100);
        c.due("what was taken is filled up: robbed(5, 10, 5)", x.robbed(5, 10, 5), 100);
        c.due("one more is not: robbed(5, 11, 5)", x.robbed(5, 11, 5), 99);
        c.due("an hour later: robbed(6, 10, 6)", x.robbed(6, 10, 6), 90);
        x.set(START, 0);
        c.due("what comes is not taken: robbed(5, 40, 5)", x.robbed(5, 40, 5), 10);
        c.due("an hour later it is: robbed(6, 40, 6)", x.robbed(6, 40, 6), 0);
        MarketSpring y = Check.town("t100501");
        y.set(START, 10);
        c.due("ahead of a THING, which stands: robbed(5, 1, 5)", y.robbed(5, 1, 5), 9);
        c.due("without: robbed(5, 0, 5)", y.robbed(5, 0, 5), 0);
    }

    private static void thiefAllLevels() {
        c.about("28 by which all LEVELS come just so as they were SEEN");
        MarketSpring x = new MarketSpring();
        x.seen(10, 95);
        c.due("five by hour 10: thief(0)", x.thief(0), 11);
        x.seen(10, 95);
        c.due("SEEN once more alike: thief(0)", x.thief(0), 11);
        x.seen(30, 90);
        c.due("ten by hour 30: thief(0)", x.thief(0), 7);
        x.seen(30, 91);
        c.due("two LEVELS in one hour: thief(0)", x.thief(0), 0);
        c.due("two LEVELS in one hour: thief(1)", x.thief(1), -1);
        MarketSpring other = new MarketSpring();
        other.seen(30, 91);
        other.seen(30, 90);
        c.due("the other way round: thief(0)", other.thief(0), 0);
    }

    private static void thiefFirst() {
        c.about("28 the first (100 times the hour, and v; by numbers)");
        MarketSpring x = new MarketSpring();
        x.set(START, 5);
        x.seen(4, 5);
        x.seen(9, 0);
        c.due("hours 5 to 9, from 5 on: thief(0)", x.thief(0), 5 * 36);
        c.due("the least hour, then the least v: thief(1)", x.thief(1), 505);
        x.forget();
        x.seen(23, 4);
        c.due("one by the end of the day: thief(0)", x.thief(0), 24);
        c.due("one by the end of the day: thief(1)", x.thief(1), 1);
        x.seen(22, 5);
        c.due("at the last hour alone: thief(1)", x.thief(1), 2301);
    }

    private static void thiefWhat() {
        c.about("28 how many (what = 0), the first (1; NONE). BAD");
        MarketSpring x = new MarketSpring();
        c.due("thief(-1)", x.thief(-1), -2);
        c.due("thief(2)", x.thief(2), -2);
        x.seen(0, 999);
        c.due("no thief: thief(0)", x.thief(0), 0);
        c.due("no thief: thief(1)", x.thief(1), -1);
    }

    private static void robbedBounds() {
        c.about("29 LEVEL behind an hour (at; 0 to 239), if a thief took v (0 to 40) at an hour of the day (0 to 23)");
        MarketSpring x = new MarketSpring();
        c.due("robbed(0, 40, 0)", x.robbed(0, 40, 0), 60);
        c.due("robbed(0, 40, 239)", x.robbed(0, 40, 239), 0);
        c.due("robbed(23, 1, 239)", x.robbed(23, 1, 239), 90);
        c.due("robbed(23, 1, 238)", x.robbed(23, 1, 238), 91);
        c.due("robbed(23, 40, 0)", x.robbed(23, 40, 0), 100);
        c.due("robbed(-1, 1, 0)", x.robbed(-1, 1, 0), -2);
        c.due("robbed(24, 1, 0)", x.robbed(24, 1, 0), -2);
        c.due("robbed(0, -1, 0)", x.robbed(0, -1, 0), -2);
        c.due("robbed(0, 41, 0)", x.robbed(0, 41, 0), -2);
        c.due("robbed(0, 1, -1)", x.robbed(0, 1, -1), -2);
        c.due("robbed(0, 1, 240)", x.robbed(0, 1, 240), -2);
    }

    private static void robbedOfNothing() {
        c.about("29 v (0 to 40): of 0, as it is told");
        MarketSpring x = Check.town("t070310;h1;g40081009");
        x.set(3, 3);
        x.set(6, 5);
        x.set(7, 90);
        for (int at : new int[] {0, 1, 8, 23, 24, 100, 238, 239}) {
            c.due("robbed(0, 0, " + at + ")", x.robbed(0, 0, at), x.level(at, 0));
            c.due("robbed(23, 0, " + at + ")", x.robbed(23, 0, at), x.level(at, 0));
        }
        int before = x.level(239, 0);
        x.robbed(0, 40, 239);
        c.due("no thief stays: level(239, 0)", x.level(239, 0), before);
        c.due("nor for unlike()", x.unlike(), 0);
    }
}
