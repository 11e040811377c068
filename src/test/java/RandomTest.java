import java.util.Random;

/** Runs of calls by fixed seeds, each answer held against the Oracle's. */
public final class RandomTest {
    private static final String[] CALLS = {"type", "wipe", "fault", "thing", "handle", "group", "set", "shut",
        "shift", "read", "goes", "toil", "wound", "level", "stands", "stood", "lost", "flow", "worst", "fewest",
        "place", "best", "lasts", "seen", "forget", "unlike", "thief", "robbed", "sheet", "lose", "put", "get",
        "copy", "write", "count", "digest"};
    private static final int[] EDGES = {-3, -2, -1, 0, 1, 2, 3, 4, 5, 6, 8, 9, 10, 23, 24, 40, 41, 47, 48, 49,
        99, 100, 239, 240, 255, 256, 999, 1000, Integer.MAX_VALUE, Integer.MIN_VALUE};

    private final Check c;
    private final Random r;
    private final int seed;
    private final MarketSpring x = new MarketSpring();
    private final Oracle o = new Oracle();

    private RandomTest(Check c, int seed) {
        this.c = c;
        this.seed = seed;
        this.r = new Random(seed);
    }

    public static void main(String[] args) {
        int runs = args.length > 0 ? Integer.parseInt(args[0]) : 400;
        int first = args.length > 1 ? Integer.parseInt(args[1]) : 0;
        Check c = new Check();
        for (int seed = first; seed < first + runs && c.allRight(); seed++) {
            new RandomTest(c, seed).run();
        }
        c.end();
    }

    private void run() {
        if (r.nextInt(4) > 0) {
            settings();
        }
        town();
        for (int n = 0; n < 250 && c.allRight(); n++) {
            if (r.nextInt(40) == 0) {
                call("wipe", 0, 0, 0, 0, 0);
                town();
            }
            step();
        }
    }

    private int upTo(int most) {
        return r.nextInt(most + 1);
    }

    /** Mostly as told, now and then an edge. */
    private int near(int most) {
        return r.nextInt(12) == 0 ? EDGES[r.nextInt(EDGES.length)] : upTo(most);
    }

    private void settings() {
        int[] most = {9, 999, 999, 99, 9, 1, 99, 999, 99};
        for (int what = 0; what < 9; what++) {
            if (r.nextInt(3) == 0) {
                int high = what == 3 && r.nextBoolean() ? 9 : most[what];
                call("set", what, upTo(high), 0, 0, 0);
            }
        }
    }

    private void town() {
        StringBuilder text = new StringBuilder();
        int parts = r.nextInt(12);
        for (int n = 0; n < parts; n++) {
            text.append(n > 0 ? ";" : "").append(part());
        }
        if (r.nextInt(5) == 0 && text.length() > 0) {
            String odd = "thg;!0123456789?";
            text.setCharAt(r.nextInt(text.length()), odd.charAt(r.nextInt(odd.length())));
        }
        for (int i = 0; i < text.length(); i++) {
            call("type", text.charAt(i), 0, 0, 0, 0);
            if (r.nextInt(8) == 0) {
                call("fault", 0, 0, 0, 0, 0);
            }
        }
        call("fault", 0, 0, 0, 0, 0);
    }

    private String part() {
        boolean wide = r.nextInt(15) == 0;
        switch (r.nextInt(4)) {
            case 0:
            case 1:
                int need = wide ? upTo(45) : 1 + upTo(39);
                int lasting = wide ? upTo(26) : 1 + upTo(r.nextBoolean() ? 23 : 5);
                return String.format("t%02d%02d%02d%s", need, upTo(wide ? 25 : 23), lasting,
                    r.nextInt(3) == 0 ? "!" : "");
            case 2:
                return "h" + upTo(wide ? 9 : 8);
            default:
                int first = upTo(wide ? 9 : 8);
                int second = wide ? upTo(9) : (first + 1 + upTo(7)) % 9;
                return String.format("g%02d%02d%d%d%d%d", wide ? upTo(99) : 1 + upTo(98), upTo(wide ? 25 : 23),
                    first, second, upTo(9), upTo(9));
        }
    }

    private void step() {
        String name = CALLS[r.nextInt(CALLS.length)];
        boolean dear = name.equals("best") || name.equals("thief");
        if (name.equals("wipe") || name.equals("type") || dear && r.nextInt(10) > 0) {
            return;
        }
        int a = near(3);
        int b = near(5);
        int d = near(5);
        int e = near(6);
        int f = near(4);
        switch (name) {
            case "level", "flow" -> a = near(239);
            case "write" -> a = near(239);
            case "stands" -> b = near(239);
            case "robbed" -> {
                a = near(23);
                b = near(40);
                d = near(239);
            }
            case "seen" -> {
                a = near(r.nextBoolean() ? 239 : 20);
                b = r.nextInt(6) == 0 ? near(999) : o.robbed(seed % 24, seed % 41, Math.floorMod(a, 240));
            }
            case "set" -> {
                a = near(8);
                b = near(r.nextBoolean() ? 9 : 999);
            }
            case "shut" -> b = near(1);
            case "shift" -> b = near(23);
            case "wound" -> a = near(23);
            case "stood" -> b = near(9);
            case "lost", "worst", "fewest", "place" -> a = near(9);
            case "sheet" -> {
                b = near(2);
                d = near(48);
            }
            case "put" -> {
                b = near(2);
                e = r.nextBoolean() ? near(23) : r.nextInt();
            }
            case "count", "handle" -> a = near(8);
            case "thing", "group", "goes" -> a = near(5);
            case "best" -> a = upTo(9) - 3;
            default -> { }
        }
        call(name, a, b, d, e, f);
    }

    private void call(String name, int a, int b, int d, int e, int f) {
        String told = "seed " + seed + ": " + name + "(" + a + ", " + b + ", " + d + ", " + e + ", " + f + ")";
        c.due(told, ofClass(name, a, b, d, e, f), ofOracle(name, a, b, d, e, f));
        c.due(told + ", then count(8)", x.count(8), o.count(8));
    }

    private long ofClass(String name, int a, int b, int d, int e, int f) {
        return switch (name) {
            case "type" -> x.type(a);
            case "wipe" -> x.wipe();
            case "fault" -> x.fault();
            case "thing" -> x.thing(a, b);
            case "handle" -> x.handle(a);
            case "group" -> x.group(a, b);
            case "set" -> x.set(a, b);
            case "shut" -> x.shut(a, b);
            case "shift" -> x.shift(a, b);
            case "read" -> x.read(a);
            case "goes" -> x.goes(a);
            case "toil" -> x.toil(a);
            case "wound" -> x.wound(a);
            case "level" -> x.level(a, b);
            case "stands" -> x.stands(a, b);
            case "stood" -> x.stood(a, b);
            case "lost" -> x.lost(a);
            case "flow" -> x.flow(a);
            case "worst" -> x.worst(a, b);
            case "fewest" -> x.fewest(a);
            case "place" -> x.place(a, b);
            case "best" -> x.best(a);
            case "lasts" -> x.lasts();
            case "seen" -> x.seen(a, b);
            case "forget" -> x.forget();
            case "unlike" -> x.unlike();
            case "thief" -> x.thief(a);
            case "robbed" -> x.robbed(a, b, d);
            case "sheet" -> x.sheet(a, b, d);
            case "lose" -> x.lose(a);
            case "put" -> x.put(a, b, d, e);
            case "get" -> x.get(a, b, d);
            case "copy" -> x.copy(a, b, d, e, f);
            case "write" -> x.write(a, b);
            case "count" -> x.count(a);
            default -> x.digest();
        };
    }

    private long ofOracle(String name, int a, int b, int d, int e, int f) {
        return switch (name) {
            case "type" -> o.type(a);
            case "wipe" -> o.wipe();
            case "fault" -> o.fault();
            case "thing" -> o.thing(a, b);
            case "handle" -> o.handle(a);
            case "group" -> o.group(a, b);
            case "set" -> o.set(a, b);
            case "shut" -> o.shut(a, b);
            case "shift" -> o.shift(a, b);
            case "read" -> o.read(a);
            case "goes" -> o.goes(a);
            case "toil" -> o.toil(a);
            case "wound" -> o.wound(a);
            case "level" -> o.level(a, b);
            case "stands" -> o.stands(a, b);
            case "stood" -> o.stood(a, b);
            case "lost" -> o.lost(a);
            case "flow" -> o.flow(a);
            case "worst" -> o.worst(a, b);
            case "fewest" -> o.fewest(a);
            case "place" -> o.place(a, b);
            case "best" -> o.best(a);
            case "lasts" -> o.lasts();
            case "seen" -> o.seen(a, b);
            case "forget" -> o.forget();
            case "unlike" -> o.unlike();
            case "thief" -> o.thief(a);
            case "robbed" -> o.robbed(a, b, d);
            case "sheet" -> o.sheet(a, b, d);
            case "lose" -> o.lose(a);
            case "put" -> o.put(a, b, d, e);
            case "get" -> o.get(a, b, d);
            case "copy" -> o.copy(a, b, d, e, f);
            case "write" -> o.write(a, b);
            case "count" -> o.count(a);
            default -> o.digest();
        };
    }
}
