import java.util.ArrayList;
import java.util.List;

/**
 * All that can be seen of an object, one row for each answer. It uses the object up (SHEETS are lost,
 * settings and shifts are others behind it) and takes some 200 of its 512 calls.
 */
final class State {
    private final List<String> rows = new ArrayList<>();

    private State() { }

    static List<String> of(MarketSpring x) {
        State s = new State();
        s.town(x);
        s.days(x);
        s.sheets(x);
        s.rest(x);
        return s.rows;
    }

    /** The first row in which two differ, without those that begin with one of the words; null: none. */
    static String difference(List<String> one, List<String> other, String... without) {
        for (int i = 0; i < Math.max(one.size(), other.size()); i++) {
            String a = i < one.size() ? one.get(i) : "nothing";
            String b = i < other.size() ? other.get(i) : "nothing";
            boolean told = true;
            for (String word : without) {
                told &= !a.startsWith(word);
            }
            if (told && !a.equals(b)) {
                return a + " is not " + b;
            }
        }
        return null;
    }

    private void row(String call, long answer) {
        rows.add(call + " = " + answer);
    }

    private void town(MarketSpring x) {
        for (int what = 0; what <= 8; what++) {
            row("count(" + what + ")", x.count(what));
        }
        row("fault()", x.fault());
        for (int t = 0; t < 6; t++) {
            for (int what = 0; what <= 5; what++) {
                row("thing(" + t + ", " + what + ")", x.thing(t, what));
            }
        }
        for (int street = 0; street <= 8; street++) {
            row("handle(" + street + ")", x.handle(street));
        }
        for (int g = 0; g < 8; g++) {
            for (int what = 0; what <= 5; what++) {
                row("group(" + g + ", " + what + ")", x.group(g, what));
            }
        }
    }

    private void days(MarketSpring x) {
        for (int hour : new int[] {0, 8, 23, 47, 215, 239}) {
            row("level(" + hour + ", 0)", x.level(hour, 0));
            row("level(" + hour + ", 1)", x.level(hour, 1));
        }
        row("toil(0)", x.toil(0));
        row("toil(1)", x.toil(1));
        row("lost(9)", x.lost(9));
        row("lasts()", x.lasts());
        row("best(-1)", x.best(-1));
        row("best(-2)", x.best(-2));
        row("unlike()", x.unlike());
        row("thief(0)", x.thief(0));
        row("thief(1)", x.thief(1));
        row("digest()", x.digest());
    }

    private void sheets(MarketSpring x) {
        for (int s = 0; s < 4; s++) {
            for (int form = 0; form < 3; form++) {
                for (int i = 0; i < 6; i++) {
                    int v = x.get(s, form, i);
                    row("get(" + s + ", " + form + ", " + i + ")", v);
                    if (v == Integer.MIN_VALUE) {
                        break;
                    }
                }
            }
            row("lose(" + s + ")", x.lose(s));
        }
    }

    private void rest(MarketSpring x) {
        for (int what = 0; what <= 8; what++) {
            row("set(" + what + ", 1)", x.set(what, 1));
        }
        for (int t = 0; t < 6; t++) {
            row("shut(" + t + ", 0)", x.shut(t, 0));
            row("shift(" + t + ", 0)", x.shift(t, 0));
        }
        row("forget()", x.forget());
        row("wipe()", x.wipe());
    }
}
