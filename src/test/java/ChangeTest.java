import java.util.List;

/**
 * What was asked before a change must not show behind it: of two objects that are alike one is asked all it can
 * tell, then both are changed; behind that both must tell the same.
 */
public final class ChangeTest {
    private static final Check c = new Check();

    private interface Change {
        void on(MarketSpring x);
    }

    public static void main(String[] args) {
        c.about("what was asked before does not show");
        town();
        settings();
        shutsAndShifts();
        thief();
        sheets();
        lastCall();
        c.end();
    }

    private static MarketSpring some() {
        MarketSpring x = Check.town("t100305!;t070006;t200812;h2;h5;g40072133;g50181244");
        x.set(2, 70);
        x.set(6, 4);
        x.set(7, 60);
        x.seen(10, x.robbed(4, 6, 10));
        x.sheet(0, 0, 4);
        for (int i = 0; i < 4; i++) {
            x.put(0, 0, i, 5 * i + 3);
        }
        x.sheet(1, 1, 3);
        return x;
    }

    private static void ask(MarketSpring x) {
        x.level(239, 0);
        x.stood(0, 9);
        x.lost(9);
        x.worst(9, 0);
        x.fewest(9);
        x.place(9, 0);
        x.best(-1);
        x.lasts();
        x.unlike();
        x.thief(0);
        x.robbed(3, 40, 239);
        x.digest();
    }

    private static void alike(String what, Change change) {
        MarketSpring asked = some();
        MarketSpring fresh = some();
        ask(asked);
        change.on(asked);
        change.on(fresh);
        List<String> due = State.of(fresh);
        String unlike = State.difference(State.of(asked), due);
        c.holds(what + ": " + unlike, unlike == null);
        // the change is one that shows, or this test would say nothing
        c.holds(what + " shows", State.difference(due, State.of(some())) != null);
    }

    private static void town() {
        alike("type", x -> Check.typeAll(x, ";t400624"));
        alike("type a fault", x -> x.type('?'));
        alike("wipe", x -> x.wipe());
        alike("wipe and type", x -> {
            x.wipe();
            Check.typeAll(x, "t100305;h2;g40072133");
        });
        alike("fewer of each, no MUST", x -> {
            x.wipe();
            Check.typeAll(x, "t100305");
            x.level(0, 0);
            Check.typeAll(x, ";h1");
        });
    }

    private static void settings() {
        int[] values = {9, 75, 30, 7, 0, 1, 40, 200, 9};
        for (int n = 0; n < 9; n++) {
            int what = n;
            alike("set(" + what + ", ..)", x -> x.set(what, values[what]));
        }
    }

    private static void shutsAndShifts() {
        for (int n = 0; n < 3; n++) {
            int thing = n;
            alike("shut(" + thing + ", 1)", x -> x.shut(thing, 1));
            alike("shut(" + thing + ", 1), then 0 and a shift", x -> {
                x.shut(thing, 1);
                ask(x);
                x.shut(thing, 0);
                x.shift(thing, 23);
            });
            alike("shift(" + thing + ", 9)", x -> x.shift(thing, 9));
        }
        alike("read(0)", x -> x.read(0));
    }

    private static void thief() {
        alike("seen", x -> x.seen(20, x.robbed(4, 6, 20)));
        alike("seen wrong", x -> x.seen(20, 999));
        alike("seen twice unlike, then forget", x -> {
            x.seen(20, 1);
            x.seen(20, 2);
            x.thief(0);
            x.forget();
        });
        alike("seen late, then forget and seen early", x -> {
            x.seen(239, 1);
            x.thief(0);
            x.forget();
            x.seen(3, x.robbed(2, 2, 3));
        });
        alike("forget", x -> x.forget());
    }

    private static void sheets() {
        alike("write", x -> x.write(100, 1));
        alike("set and write", x -> {
            x.set(2, 33);
            x.write(0, 1);
        });
        alike("lose", x -> x.lose(0));
        alike("sheet", x -> x.sheet(0, 2, 3));
    }

    private static void lastCall() {
        c.about("An object is used for at most 512 calls after it has been made");
        MarketSpring x = new MarketSpring();
        for (int round = 0; round < 5; round++) {
            for (int n = 1; n <= 100; n++) {
                c.due("byte " + n, x.type('h'), n);
            }
            c.due("wipe()", x.wipe(), 100);
        }
        Check.typeAll(x, "h1");
        c.due("call 508", x.set(2, 40), 100);
        c.due("call 509", x.seen(239, 1), 1);
        c.due("call 510", x.unlike(), 1);
        c.due("call 511", x.thief(0), 0);
        MarketSpring fresh = Check.town("h1");
        fresh.set(2, 40);
        fresh.seen(239, 1);
        c.due("call 512", x.digest(), fresh.digest());
    }
}
