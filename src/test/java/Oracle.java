import java.util.ArrayList;
import java.util.List;

/**
 * The document once more, as slow and plain as can be: nothing is kept that could be worked out,
 * and every question runs the hours anew. RandomTest holds the class against it.
 */
final class Oracle {
    static final int LEAST = Integer.MIN_VALUE;
    private static final int[] LOW = {1, 1, 0, 0, 0, 0, 0, 0, 0};
    private static final int[] HIGH = {9, 999, 999, 99, 9, 1, 99, 999, 99};

    private final StringBuilder text = new StringBuilder();
    private final int[] set = {1, 200, 100, 0, 3, 0, 0, 0, 0};
    private final boolean[] shut = new boolean[6];
    private final int[] shift = new int[6];
    private final List<int[]> seen = new ArrayList<>();
    private final Object[] sheet = new Object[4];
    private int finding = 0;

    /** What a text tells. */
    private static final class Parts {
        final List<int[]> things = new ArrayList<>();
        final List<int[]> groups = new ArrayList<>();
        final List<Integer> handles = new ArrayList<>();
        int fault = -1;
    }

    /** An hour as it went: LEVEL, the SECOND's, FLOW, what was lost, who stands. */
    private record Hour(int level, int second, int flow, int lost, boolean[] stands) { }

    // ---- the text: one byte after the other, by its place in its part

    private Parts parts() {
        Parts p = new Parts();
        String s = text.toString();
        if (s.isEmpty()) {
            return p;
        }
        int begin = 0;
        while (p.fault < 0) {
            int end = s.indexOf(';', begin);
            boolean last = end < 0;
            String part = last ? s.substring(begin) : s.substring(begin, end);
            int wrong = part(p, part);
            if (wrong >= 0) {
                p.fault = begin + wrong;
            } else if (last) {
                return p;
            }
            begin = end + 1;
        }
        Parts none = new Parts();
        none.fault = p.fault;
        return none;
    }

    /** The place of the fault in one part, -1 if it is well; a part's end is a byte that does not fit. */
    private static int part(Parts p, String part) {
        if (part.startsWith("t")) {
            return p.things.size() == 6 ? 0 : thingPart(p, part);
        }
        if (part.startsWith("g")) {
            return p.groups.size() == 8 ? 0 : groupPart(p, part);
        }
        if (part.startsWith("h")) {
            return handlePart(p, part);
        }
        return 0;
    }

    private static boolean figures(String part, int upTo) {
        return part.length() >= upTo && part.substring(1, upTo).chars().allMatch(b -> b >= '0' && b <= '9');
    }

    private static int firstNoFigure(String part, int upTo) {
        for (int i = 1; i < upTo; i++) {
            if (i >= part.length() || part.charAt(i) < '0' || part.charAt(i) > '9') {
                return i;
            }
        }
        return upTo;
    }

    private static int two(String part, int at) {
        return Integer.parseInt(part.substring(at, at + 2));
    }

    private static int thingPart(Parts p, String part) {
        int[] low = {1, 0, 1};
        int[] high = {40, 23, 24};
        for (int k = 0; k < 3; k++) {
            if (figures(part, 3 + 2 * k)) {
                int v = two(part, 1 + 2 * k);
                if (v < low[k] || v > high[k]) {
                    return 1 + 2 * k;
                }
            }
        }
        int stop = firstNoFigure(part, 7);
        if (stop < 7) {
            return stop;
        }
        boolean must = part.length() > 7 && part.charAt(7) == '!';
        int whole = must ? 8 : 7;
        if (part.length() > whole) {
            return whole;
        }
        p.things.add(new int[] {two(part, 1), two(part, 3), two(part, 5), must ? 1 : 0});
        return -1;
    }

    private static int handlePart(Parts p, String part) {
        if (firstNoFigure(part, 2) < 2 || part.charAt(1) == '9' || p.handles.contains(part.charAt(1) - '0')) {
            return 1;
        }
        if (part.length() > 2) {
            return 2;
        }
        p.handles.add(part.charAt(1) - '0');
        return -1;
    }

    private static int groupPart(Parts p, String part) {
        if (figures(part, 3) && two(part, 1) == 0) {
            return 1;
        }
        if (figures(part, 5) && two(part, 3) > 23) {
            return 3;
        }
        if (figures(part, 6) && part.charAt(5) == '9') {
            return 5;
        }
        if (figures(part, 7) && (part.charAt(6) == '9' || part.charAt(6) == part.charAt(5))) {
            return 6;
        }
        int stop = firstNoFigure(part, 9);
        if (stop < 9) {
            return stop;
        }
        if (part.length() > 9) {
            return 9;
        }
        p.groups.add(new int[] {two(part, 1), two(part, 3), part.charAt(5) - '0', part.charAt(6) - '0',
            part.charAt(7) - '0', part.charAt(8) - '0'});
        return -1;
    }

    // ---- ways

    private int cost(int[] g, int side, List<Integer> handles) {
        return g[4 + side] + (handles.contains(g[2 + side]) ? set[4] : 0);
    }

    private int side(int[] g, List<Integer> handles, boolean asked) {
        boolean first = handles.contains(g[2]);
        boolean second = handles.contains(g[3]);
        if (asked && first && !second) {
            return 0;
        }
        if (asked && second && !first) {
            return 1;
        }
        return cost(g, 0, handles) <= cost(g, 1, handles) ? 0 : 1;
    }

    private int windingAt(Parts p, List<Integer> handles, int hourOfDay) {
        int sum = 0;
        for (int[] g : p.groups) {
            if (g[1] == hourOfDay && handles.contains(g[2 + side(g, handles, set[5] == 1)])) {
                sum += g[0] * set[0];
            }
        }
        return sum;
    }

    // ---- days

    private static boolean goesIn(int[] thing, int shifted, int hourOfDay) {
        for (int k = 0; k < thing[2]; k++) {
            if ((thing[1] + shifted + k) % 24 == hourOfDay) {
                return true;
            }
        }
        return false;
    }

    private List<Hour> days(Parts p, List<Integer> handles, boolean[] shutNow, int[] shiftNow,
            int thiefHour, int takes, int hours) {
        List<Hour> all = new ArrayList<>();
        int[] wound = new int[24];
        boolean[][] goes = new boolean[p.things.size()][24];
        for (int h = 0; h < 24; h++) {
            wound[h] = windingAt(p, handles, h);
            for (int t = 0; t < p.things.size(); t++) {
                goes[t][h] = !shutNow[t] && goesIn(p.things.get(t), shiftNow[t], h);
            }
        }
        int level = set[2] < set[1] ? set[2] : set[1];
        int second = set[7];
        for (int hour = 0; hour < hours; hour++) {
            int h = hour % 24;
            if (h == thiefHour) {
                level = Math.max(0, level - takes);
            }
            int lost = Math.max(0, level + wound[h] - set[1]);
            level = level + wound[h] - lost;
            boolean[] stands = new boolean[p.things.size()];
            for (int t = 0; t < p.things.size(); t++) {
                stands[t] = goes[t][h] && level < p.things.get(t)[0];
                if (goes[t][h] && !stands[t]) {
                    level -= p.things.get(t)[0];
                }
            }
            level -= (int) Math.floor(level * set[3] / 100.0 + 1e-9);
            second = Math.max(0, second - set[8]);
            int flow = Math.min(Math.abs(level - second) / 2, set[6]);
            flow = second > level ? Math.min(flow, set[1] - level) : -flow;
            level += flow;
            second -= flow;
            all.add(new Hour(level, second, flow, lost, stands));
        }
        return all;
    }

    private List<Hour> days(int hours) {
        Parts p = parts();
        return days(p, p.handles, shut, shift, -1, 0, hours);
    }

    private static int stoodBy(List<Hour> days, int thing) {
        return (int) days.stream().filter(h -> h.stands()[thing]).count();
    }

    private static int leastOf(List<Hour> days) {
        return days.stream().mapToInt(Hour::level).min().getAsInt();
    }

    // ---- the calls

    private static boolean in(int v, int low, int high) {
        return v >= low && v <= high;
    }

    int type(int b) {
        if (!in(b, 0, 255)) {
            return -2;
        }
        if (text.length() == 100) {
            return -4;
        }
        text.append((char) b);
        return text.length();
    }

    int wipe() {
        int had = text.length();
        text.setLength(0);
        return had;
    }

    int fault() {
        return parts().fault;
    }

    int thing(int thing, int what) {
        Parts p = parts();
        if (!in(thing, 0, p.things.size() - 1) || !in(what, 0, 5)) {
            return -2;
        }
        return what == 4 ? (shut[thing] ? 1 : 0) : what == 5 ? shift[thing] : p.things.get(thing)[what];
    }

    int handle(int street) {
        return !in(street, 0, 8) ? -2 : parts().handles.contains(street) ? 1 : 0;
    }

    int group(int group, int what) {
        Parts p = parts();
        return in(group, 0, p.groups.size() - 1) && in(what, 0, 5) ? p.groups.get(group)[what] : -2;
    }

    int set(int what, int v) {
        if (!in(what, 0, 8) || !in(v, LOW[what], HIGH[what])) {
            return -5;
        }
        int was = set[what];
        set[what] = v;
        return was;
    }

    int shut(int thing, int v) {
        if (!in(thing, 0, 5) || !in(v, 0, 1)) {
            return -2;
        }
        int was = shut[thing] ? 1 : 0;
        shut[thing] = v == 1;
        return was;
    }

    int shift(int thing, int v) {
        if (!in(thing, 0, 5) || !in(v, 0, 23)) {
            return -2;
        }
        int was = shift[thing];
        shift[thing] = v;
        return was;
    }

    int read(int s) {
        if (!in(s, 0, 3)) {
            return -2;
        }
        if (sheet[s] == null) {
            return find(1);
        }
        int n = 0;
        while (n < 6 && n < sizeOf(sheet[s]) && in(itemOf(sheet[s], n), 0, 23)) {
            shift[n] = itemOf(sheet[s], n);
            n++;
        }
        return n;
    }

    int goes(int group) {
        Parts p = parts();
        if (!in(group, 0, p.groups.size() - 1)) {
            return -2;
        }
        int[] g = p.groups.get(group);
        return g[2 + side(g, p.handles, set[5] == 1)];
    }

    int toil(int asked) {
        if (!in(asked, 0, 1)) {
            return -2;
        }
        Parts p = parts();
        int sum = 0;
        for (int[] g : p.groups) {
            sum += g[0] * cost(g, side(g, p.handles, asked == 1), p.handles);
        }
        return sum;
    }

    int wound(int hour) {
        Parts p = parts();
        return in(hour, 0, 23) ? windingAt(p, p.handles, hour) : -2;
    }

    int level(int hour, int which) {
        if (!in(hour, 0, 239) || !in(which, 0, 1)) {
            return -2;
        }
        Hour h = days(hour + 1).get(hour);
        return which == 0 ? h.level() : h.second();
    }

    int stands(int thing, int hour) {
        if (!in(thing, 0, parts().things.size() - 1) || !in(hour, 0, 239)) {
            return -2;
        }
        return days(hour + 1).get(hour).stands()[thing] ? 1 : 0;
    }

    int stood(int thing, int days) {
        if (!in(thing, 0, parts().things.size() - 1) || !in(days, 1, 9)) {
            return -2;
        }
        return stoodBy(days(24 * days), thing);
    }

    int lost(int days) {
        return in(days, 1, 9) ? days(24 * days).stream().mapToInt(Hour::lost).sum() : -2;
    }

    int flow(int hour) {
        return in(hour, 0, 239) ? days(hour + 1).get(hour).flow() : -10002;
    }

    int worst(int days, int what) {
        if (!in(days, 1, 9) || !in(what, 0, 1)) {
            return -2;
        }
        List<Hour> all = days(24 * days);
        int least = leastOf(all);
        int first = 0;
        while (all.get(first).level() != least) {
            first++;
        }
        return what == 0 ? least : first;
    }

    int fewest(int days) {
        if (!in(days, 1, 9)) {
            return -2;
        }
        Parts p = parts();
        int best = -1;
        for (int bits = 0; bits < 1 << p.things.size(); bits++) {
            boolean[] shutNow = shut.clone();
            boolean told = false;
            for (int t = 0; t < 6; t++) {
                boolean besides = (bits & 1 << t) != 0;
                told |= besides && shut[t];
                shutNow[t] |= besides;
            }
            List<Hour> all = days(p, p.handles, shutNow, shift, -1, 0, 24 * days);
            boolean well = true;
            for (int t = 0; t < p.things.size(); t++) {
                well &= stoodBy(all, t) == 0;
            }
            if (!told && well && (best < 0 || Integer.bitCount(bits) < Integer.bitCount(best))) {
                best = bits;
            }
        }
        return best;
    }

    int place(int days, int what) {
        if (!in(days, 1, 9) || !in(what, 0, 1)) {
            return -2;
        }
        Parts p = parts();
        int[] best = {-1, -1};
        for (int street = 8; street >= 0; street--) {
            if (!p.handles.contains(street)) {
                List<Integer> more = new ArrayList<>(p.handles);
                more.add(street);
                int least = leastOf(days(p, more, shut, shift, -1, 0, 24 * days));
                if (least >= best[1]) {
                    best = new int[] {street, least};
                }
            }
        }
        return best[what];
    }

    int best(int thing) {
        Parts p = parts();
        if (!in(thing, -2, p.things.size() - 1)) {
            return -2;
        }
        List<Integer> waiting = new ArrayList<>();
        for (int t = 0; t < p.things.size(); t++) {
            if (p.things.get(t)[3] == 0 && !shut[t]) {
                waiting.add(t);
            }
        }
        if (waiting.size() > 3) {
            return -4;
        }
        if (thing >= 0 && !waiting.contains(thing)) {
            return -3;
        }
        int[] best = null;
        int[] row = shift.clone();
        for (int t : waiting) {
            row[t] = 0;
        }
        do {
            List<Hour> all = days(p, p.handles, shut, row, -1, 0, 48);
            int must = 0;
            int sum = 0;
            for (int t = 0; t < p.things.size(); t++) {
                must += p.things.get(t)[3] * stoodBy(all, t);
                sum += stoodBy(all, t);
            }
            if (best == null || must < best[6] || must == best[6] && sum < best[7]) {
                best = new int[] {row[0], row[1], row[2], row[3], row[4], row[5], must, sum};
            }
        } while (nextRow(row, waiting));
        return thing == -1 ? best[6] : thing == -2 ? best[7] : best[thing];
    }

    private static boolean nextRow(int[] row, List<Integer> waiting) {
        for (int k = waiting.size() - 1; k >= 0; k--) {
            int t = waiting.get(k);
            row[t]++;
            if (row[t] < 24) {
                return true;
            }
            row[t] = 0;
        }
        return false;
    }

    int lasts() {
        List<Hour> all = days(240);
        for (int h = 0; h < 240; h++) {
            for (boolean stands : all.get(h).stands()) {
                if (stands) {
                    return h;
                }
            }
        }
        return -1;
    }

    int seen(int hour, int level) {
        if (!in(hour, 0, 239) || !in(level, 0, 999)) {
            return -2;
        }
        if (seen.size() == 12) {
            return -4;
        }
        seen.add(new int[] {hour, level});
        return seen.size();
    }

    int forget() {
        int had = seen.size();
        seen.clear();
        return had;
    }

    private int unlikeOf(List<Hour> all) {
        return (int) seen.stream().filter(s -> all.get(s[0]).level() != s[1]).count();
    }

    int unlike() {
        return unlikeOf(days(240));
    }

    int thief(int what) {
        if (!in(what, 0, 1)) {
            return -2;
        }
        Parts p = parts();
        List<Integer> fit = new ArrayList<>();
        for (int hour = 0; hour < 24; hour++) {
            for (int v = 1; v <= 40; v++) {
                if (unlikeOf(days(p, p.handles, shut, shift, hour, v, 240)) == 0) {
                    fit.add(100 * hour + v);
                }
            }
        }
        return what == 0 ? fit.size() : fit.isEmpty() ? -1 : fit.get(0);
    }

    int robbed(int hour, int v, int at) {
        if (!in(hour, 0, 23) || !in(v, 0, 40) || !in(at, 0, 239)) {
            return -2;
        }
        Parts p = parts();
        return days(p, p.handles, shut, shift, hour, v, at + 1).get(at).level();
    }

    // ---- sheets: Java's own rows

    private int find(int number) {
        finding = number;
        return -10 - number;
    }

    private static int formOf(Object row) {
        return row instanceof byte[] ? 0 : row instanceof short[] ? 1 : 2;
    }

    private static int sizeOf(Object row) {
        return java.lang.reflect.Array.getLength(row);
    }

    private static int itemOf(Object row, int i) {
        return java.lang.reflect.Array.getInt(row, i);
    }

    private static void store(Object row, int i, int v) {
        if (row instanceof byte[] b) {
            b[i] = (byte) v;
        } else if (row instanceof short[] s) {
            s[i] = (short) v;
        } else {
            ((int[]) row)[i] = v;
        }
    }

    int sheet(int s, int form, int n) {
        if (!in(s, 0, 3) || !in(form, 0, 2) || n > 48) {
            return -2;
        }
        if (n < 0) {
            return find(5);
        }
        sheet[s] = form == 0 ? new byte[n] : form == 1 ? new short[n] : new int[n];
        return n;
    }

    int lose(int s) {
        if (!in(s, 0, 3)) {
            return -2;
        }
        if (sheet[s] == null) {
            return find(1);
        }
        int had = sizeOf(sheet[s]);
        sheet[s] = null;
        return had;
    }

    private int refusal(int s, int form, int i) {
        if (!in(s, 0, 3) || !in(form, 0, 2)) {
            return -2;
        }
        if (sheet[s] == null) {
            return find(1);
        }
        if (formOf(sheet[s]) != form) {
            return find(3);
        }
        return in(i, 0, sizeOf(sheet[s]) - 1) ? 0 : find(2);
    }

    int put(int s, int form, int i, int v) {
        int refused = refusal(s, form, i);
        if (refused != 0) {
            return refused;
        }
        store(sheet[s], i, v);
        return 1;
    }

    int get(int s, int form, int i) {
        return refusal(s, form, i) != 0 ? LEAST : itemOf(sheet[s], i);
    }

    int copy(int s, int i, int t, int j, int n) {
        if (!in(s, 0, 3) || !in(t, 0, 3)) {
            return -2;
        }
        if (sheet[s] == null || sheet[t] == null) {
            return find(1);
        }
        if (formOf(sheet[s]) != formOf(sheet[t])) {
            return find(4);
        }
        if (i < 0 || j < 0 || n < 0 || (long) i + n > sizeOf(sheet[s]) || (long) j + n > sizeOf(sheet[t])) {
            return find(2);
        }
        int[] items = new int[n];
        for (int k = 0; k < n; k++) {
            items[k] = itemOf(sheet[s], i + k);
        }
        for (int k = 0; k < n; k++) {
            store(sheet[t], j + k, items[k]);
        }
        return 1;
    }

    int write(int hour, int s) {
        if (!in(hour, 0, 239) || !in(s, 0, 3)) {
            return -2;
        }
        if (sheet[s] == null) {
            return find(1);
        }
        List<Hour> all = days(240);
        int n = 0;
        while (n < sizeOf(sheet[s]) && hour + n < 240) {
            store(sheet[s], n, all.get(hour + n).level());
            n++;
        }
        return n;
    }

    int count(int what) {
        Parts p = parts();
        int wound = 0;
        for (int h = 0; h < 24; h++) {
            wound += windingAt(p, p.handles, h);
        }
        int[] all = {p.things.size(), p.handles.size(), p.groups.size(), text.length(), seen.size(),
            p.groups.stream().mapToInt(g -> g[0]).sum(), p.things.stream().mapToInt(t -> t[3]).sum(),
            wound, finding};
        return in(what, 0, 8) ? all[what] : -2;
    }

    long digest() {
        long h = 17;
        for (int what = 0; what < 8; what++) {
            h = 31 * h + count(what);
        }
        h = 31 * h + fault();
        for (int t = 0; t < count(0); t++) {
            for (int what = 0; what < 6; what++) {
                h = 31 * h + thing(t, what);
            }
            h = 31 * h + stood(t, 2);
        }
        for (int g = 0; g < count(2); g++) {
            h = 31 * h + goes(g);
        }
        int[] hours = {0, 7, 23, 100, 239};
        h = (31 * h + toil(0)) * 31 + toil(1);
        for (int hour : hours) {
            h = ((31 * h + level(hour, 0)) * 31 + level(hour, 1)) * 31 + flow(hour);
        }
        int[] rest = {lost(2), worst(3, 0), worst(3, 1), fewest(2), place(2, 0), place(2, 1), lasts(),
            unlike(), robbed(9, 5, 47)};
        for (int v : rest) {
            h = 31 * h + v;
        }
        return h;
    }
}
