import java.util.Arrays;

/** A town that goes by one great spring; ../shared/DOC.md tells every promise. */
public final class MarketSpring {
    public static final int NONE = -1, BAD = -2, NOT = -3, FULL = -4;

    private static final int DAY = 24, HOURS = 240, DAYS_MOST = 9;
    private static final int TEXT_MOST = 100, THINGS_MOST = 6, GROUPS_MOST = 8, STREETS = 9;
    private static final int SEEN_MOST = 12, LEVEL_MOST = 999, TAKE_MOST = 40;
    private static final int WAITING_MOST = 3, TRIAL_HOURS = 2 * DAY;
    private static final int STOOD_ABOVE = THINGS_MOST * TRIAL_HOURS + 1;
    private static final int SHEETS = 4, FORMS = 3, ITEMS_MOST = 48;

    private static final int GIVE = 0, MOST = 1, START = 2, TIRE = 3, TOIL = 4, ASKED = 5;
    private static final int LINK = 6, SECOND = 7, DRAIN = 8, SETTINGS = 9;
    private static final int[] SETTING_LEAST = {1, 1, 0, 0, 0, 0, 0, 0, 0};
    private static final int[] SETTING_MOST = {9, 999, 999, 99, 9, 1, 99, 999, 99};
    private static final int[] SETTING_FIRST = {1, 200, 100, 0, 3, 0, 0, 0, 0};

    private static final int NEED = 0, FROM = 1, LASTING = 2, MUST = 3, THING_ROW = 4;
    private static final int PEOPLE = 0, WHEN = 1, STREET = 2, LONG = 4, GROUP_ROW = 6;

    private static final int NULL = 1, INDEX = 2, CAST = 3, STORE = 4, SIZE = 5;
    private static final int BAD_SETTING = -5, BAD_FLOW = -10000 + BAD, LEAST_INT = 1 << 31;
    private static final int[] DIGEST_HOURS = {0, 7, 23, 100, 239};

    private final Town town = new Town();
    private final int[] settings = SETTING_FIRST.clone();
    private final int[] shifts = new int[THINGS_MOST];
    private int shutBits = 0;
    private final Ways ways = new Ways(town, settings);
    private final Spring spring = new Spring();
    private final Days tenDays = new Days();
    private final Plan plan = new Plan();
    private final Watch watch = new Watch();
    private final Sheet[] sheets = new Sheet[SHEETS];
    private int finding = 0;

    public MarketSpring() {
        for (int s = 0; s < SHEETS; s++) {
            sheets[s] = new Sheet();
        }
    }

    // ---- the town

    public int type(int b) {
        if (!within(b, 0, 255)) {
            return BAD;
        }
        if (town.length >= TEXT_MOST) {
            return FULL;
        }
        town.append(b);
        town.parse();
        outdate();
        return town.length;
    }

    public int wipe() {
        int had = town.length;
        town.length = 0;
        town.parse();
        outdate();
        return had;
    }

    public int fault() {
        return town.faultAt;
    }

    public int thing(int thing, int what) {
        if (!town.hasThing(thing) || !within(what, 0, 5)) {
            return BAD;
        }
        if (what == 4) {
            return bit(shutBits, thing);
        }
        if (what == 5) {
            return shifts[thing];
        }
        return town.ofThing(thing, what);
    }

    public int handle(int street) {
        if (!within(street, 0, STREETS - 1)) {
            return BAD;
        }
        return bit(town.handleBits, street);
    }

    public int group(int group, int what) {
        if (!town.hasGroup(group) || !within(what, 0, GROUP_ROW - 1)) {
            return BAD;
        }
        return town.ofGroup(group, what);
    }

    public int set(int what, int v) {
        if (!within(what, 0, SETTINGS - 1) || !within(v, SETTING_LEAST[what], SETTING_MOST[what])) {
            return BAD_SETTING;
        }
        int was = settings[what];
        settings[what] = v;
        outdate();
        return was;
    }

    public int shut(int thing, int v) {
        if (!within(thing, 0, THINGS_MOST - 1) || !within(v, 0, 1)) {
            return BAD;
        }
        int was = bit(shutBits, thing);
        shutBits = v == 1 ? shutBits | 1 << thing : shutBits & ~(1 << thing);
        outdate();
        return was;
    }

    public int shift(int thing, int v) {
        if (!within(thing, 0, THINGS_MOST - 1) || !within(v, 0, DAY - 1)) {
            return BAD;
        }
        int was = shifts[thing];
        shifts[thing] = v;
        outdate();
        return was;
    }

    public int read(int s) {
        if (!isSheet(s)) {
            return BAD;
        }
        if (sheets[s].gone) {
            return find(NULL);
        }
        Sheet from = sheets[s];
        int most = Math.min(from.size, THINGS_MOST);
        int taken = 0;
        while (taken < most && within(from.items[taken], 0, DAY - 1)) {
            shifts[taken] = from.items[taken];
            taken++;
        }
        outdate();
        return taken;
    }

    // ---- ways, days

    public int goes(int group) {
        if (!town.hasGroup(group)) {
            return BAD;
        }
        int side = ways.sideOf(group, town.handleBits, settings[ASKED]);
        return town.ofGroup(group, STREET + side);
    }

    public int toil(int asked) {
        if (!within(asked, 0, 1)) {
            return BAD;
        }
        return ways.costOfAll(town.handleBits, asked);
    }

    public int wound(int hour) {
        if (!within(hour, 0, DAY - 1)) {
            return BAD;
        }
        return ways.windingOf(hour, town.handleBits);
    }

    public int level(int hour, int which) {
        if (!isHour(hour) || !within(which, 0, 1)) {
            return BAD;
        }
        recordDays();
        return which == 0 ? tenDays.levels[hour] : tenDays.seconds[hour];
    }

    public int stands(int thing, int hour) {
        if (!town.hasThing(thing) || !isHour(hour)) {
            return BAD;
        }
        recordDays();
        return bit(tenDays.standing[hour], thing);
    }

    public int stood(int thing, int days) {
        if (!town.hasThing(thing) || !areDays(days)) {
            return BAD;
        }
        recordDays();
        return tenDays.hoursStood(thing, days * DAY);
    }

    public int lost(int days) {
        if (!areDays(days)) {
            return BAD;
        }
        recordDays();
        return tenDays.spiltWithin(days * DAY);
    }

    public int flow(int hour) {
        if (!isHour(hour)) {
            return BAD_FLOW;
        }
        recordDays();
        return tenDays.flows[hour];
    }

    public int worst(int days, int what) {
        if (!areDays(days) || !within(what, 0, 1)) {
            return BAD;
        }
        recordDays();
        int hour = tenDays.worstHour(days * DAY);
        return what == 0 ? tenDays.levels[hour] : hour;
    }

    // ---- what could be

    public int fewest(int days) {
        if (!areDays(days)) {
            return BAD;
        }
        int sets = 1 << town.things;
        for (int size = 0; size <= town.things; size++) {
            for (int besides = 0; besides < sets; besides++) {
                if (Integer.bitCount(besides) == size && (besides & shutBits) == 0) {
                    makeReady(town.handleBits, shutBits | besides);
                    if (spring.allGoWithin(days * DAY)) {
                        return besides;
                    }
                }
            }
        }
        return NONE;
    }

    public int place(int days, int what) {
        if (!areDays(days) || !within(what, 0, 1)) {
            return BAD;
        }
        int street = NONE;
        int least = NONE;
        for (int s = 0; s < STREETS; s++) {
            if (bit(town.handleBits, s) == 0) {
                makeReady(town.handleBits | 1 << s, shutBits);
                int then = spring.leastLevel(days * DAY);
                if (then > least) {
                    street = s;
                    least = then;
                }
            }
        }
        return what == 0 ? street : least;
    }

    public int best(int thing) {
        if (thing != NONE && thing != -2 && !town.hasThing(thing)) {
            return BAD;
        }
        int waiting = waitingBits();
        if (Integer.bitCount(waiting) > WAITING_MOST) {
            return FULL;
        }
        if (thing >= 0 && bit(waiting, thing) == 0) {
            return NOT;
        }
        if (!plan.known) {
            makeReady(town.handleBits, shutBits);
            plan.search(spring, town, waiting);
        }
        if (thing == NONE) {
            return plan.mustStood;
        }
        return thing == -2 ? plan.allStood : plan.shiftOf(thing);
    }

    public int lasts() {
        recordDays();
        return tenDays.firstStanding();
    }

    // ---- a thief

    public int seen(int hour, int level) {
        if (!isHour(hour) || !within(level, 0, LEVEL_MOST)) {
            return BAD;
        }
        if (watch.size >= SEEN_MOST) {
            return FULL;
        }
        watch.note(hour, level);
        return watch.size;
    }

    public int forget() {
        int had = watch.size;
        watch.clearNotes();
        return had;
    }

    public int unlike() {
        recordDays();
        return watch.differing(tenDays.levels);
    }

    public int thief(int what) {
        if (!within(what, 0, 1)) {
            return BAD;
        }
        if (!watch.known) {
            makeReady(town.handleBits, shutBits);
            watch.search(spring);
        }
        return what == 0 ? watch.thieves : watch.firstThief;
    }

    public int robbed(int hour, int v, int at) {
        if (!within(hour, 0, DAY - 1) || !within(v, 0, TAKE_MOST) || !isHour(at)) {
            return BAD;
        }
        makeReady(town.handleBits, shutBits);
        spring.rob(hour, v);
        spring.begin();
        for (int h = 0; h <= at; h++) {
            spring.turn(h % DAY);
        }
        return spring.level;
    }

    // ---- sheets

    public int sheet(int s, int form, int n) {
        if (!isSheet(s) || !isForm(form) || n > ITEMS_MOST) {
            return BAD;
        }
        if (n < 0) {
            return find(SIZE);
        }
        sheets[s].renew(form, n);
        return n;
    }

    public int lose(int s) {
        if (!isSheet(s)) {
            return BAD;
        }
        if (sheets[s].gone) {
            return find(NULL);
        }
        sheets[s].gone = true;
        return sheets[s].size;
    }

    public int put(int s, int form, int i, int v) {
        if (!isSheet(s) || !isForm(form)) {
            return BAD;
        }
        int found = findingOfItem(sheets[s], form, i);
        if (found != 0) {
            return find(found);
        }
        sheets[s].store(i, v);
        return 1;
    }

    public int get(int s, int form, int i) {
        if (!isSheet(s) || !isForm(form)) {
            return LEAST_INT;
        }
        int found = findingOfItem(sheets[s], form, i);
        if (found != 0) {
            finding = found;
            return LEAST_INT;
        }
        return sheets[s].items[i];
    }

    public int copy(int s, int i, int t, int j, int n) {
        if (!isSheet(s) || !isSheet(t)) {
            return BAD;
        }
        Sheet from = sheets[s];
        Sheet to = sheets[t];
        if (from.gone || to.gone) {
            return find(NULL);
        }
        if (from.form != to.form) {
            return find(STORE);
        }
        if (!from.hasRun(i, n) || !to.hasRun(j, n)) {
            return find(INDEX);
        }
        System.arraycopy(from.items, i, to.items, j, n);
        return 1;
    }

    public int write(int hour, int s) {
        if (!isHour(hour) || !isSheet(s)) {
            return BAD;
        }
        if (sheets[s].gone) {
            return find(NULL);
        }
        recordDays();
        int written = Math.min(sheets[s].size, HOURS - hour);
        for (int i = 0; i < written; i++) {
            sheets[s].store(i, tenDays.levels[hour + i]);
        }
        return written;
    }

    public int count(int what) {
        switch (what) {
            case 0:
                return town.things;
            case 1:
                return Integer.bitCount(town.handleBits);
            case 2:
                return town.groups;
            case 3:
                return town.length;
            case 4:
                return watch.size;
            case 5:
                return town.allPeople();
            case 6:
                return Integer.bitCount(town.mustBits());
            case 7:
                return ways.windingOfDay(town.handleBits);
            case 8:
                return finding;
            default:
                return BAD;
        }
    }

    public long digest() {
        long h = 17;
        for (int what = 0; what <= 7; what++) {
            h = 31 * h + count(what);
        }
        h = 31 * h + fault();
        for (int t = 0; t < town.things; t++) {
            for (int what = 0; what <= 5; what++) {
                h = 31 * h + thing(t, what);
            }
            h = 31 * h + stood(t, 2);
        }
        for (int g = 0; g < town.groups; g++) {
            h = 31 * h + goes(g);
        }
        h = 31 * h + toil(0);
        h = 31 * h + toil(1);
        for (int hour : DIGEST_HOURS) {
            h = 31 * h + level(hour, 0);
            h = 31 * h + level(hour, 1);
            h = 31 * h + flow(hour);
        }
        h = 31 * h + lost(2);
        h = 31 * h + worst(3, 0);
        h = 31 * h + worst(3, 1);
        h = 31 * h + fewest(2);
        h = 31 * h + place(2, 0);
        h = 31 * h + place(2, 1);
        h = 31 * h + lasts();
        h = 31 * h + unlike();
        return 31 * h + robbed(9, 5, 47);
    }

    // ---- what the calls share

    private static boolean within(int v, int least, int most) {
        return v >= least && v <= most;
    }

    private static boolean isHour(int hour) {
        return within(hour, 0, HOURS - 1);
    }

    private static boolean areDays(int days) {
        return within(days, 1, DAYS_MOST);
    }

    private static boolean isSheet(int s) {
        return within(s, 0, SHEETS - 1);
    }

    private static boolean isForm(int form) {
        return within(form, 0, FORMS - 1);
    }

    private static int bit(int bits, int place) {
        return bits >> place & 1;
    }

    private int find(int number) {
        finding = number;
        return -10 - number;
    }

    private static int findingOfItem(Sheet sheet, int form, int i) {
        if (sheet.gone) {
            return NULL;
        }
        if (sheet.form != form) {
            return CAST;
        }
        return within(i, 0, sheet.size - 1) ? 0 : INDEX;
    }

    /** What was worked out no longer holds: town, settings, shuts or shifts are others. */
    private void outdate() {
        tenDays.known = false;
        plan.known = false;
        watch.known = false;
    }

    private void recordDays() {
        if (!tenDays.known) {
            makeReady(town.handleBits, shutBits);
            tenDays.record(spring);
        }
    }

    private int waitingBits() {
        return (1 << town.things) - 1 & ~town.mustBits() & ~shutBits;
    }

    private void makeReady(int handles, int shut) {
        spring.take(settings);
        spring.things = town.things;
        for (int t = 0; t < town.things; t++) {
            spring.needs[t] = town.ofThing(t, NEED);
            spring.hoursOf[t] = bit(shut, t) == 1 ? 0 : town.hoursOf(t, shifts[t]);
        }
        ways.windDay(handles, spring.gains);
        spring.rob(NONE, 0);
    }

    /** The text, and what it tells: things, handles, groups; or its fault. */
    private static final class Town {
        final int[] text = new int[TEXT_MOST];
        final int[] thingRows = new int[THINGS_MOST * THING_ROW];
        final int[] groupRows = new int[GROUPS_MOST * GROUP_ROW];
        int length = 0;
        int things = 0;
        int groups = 0;
        int handleBits = 0;
        int faultAt = NONE;
        int at = 0;

        void append(int b) {
            if (length < TEXT_MOST) {
                text[length] = b;
                length++;
            }
        }

        boolean hasThing(int thing) {
            return thing >= 0 && thing < things;
        }

        boolean hasGroup(int group) {
            return group >= 0 && group < groups;
        }

        int ofThing(int thing, int what) {
            return thingRows[thing * THING_ROW + what];
        }

        int ofGroup(int group, int what) {
            return groupRows[group * GROUP_ROW + what];
        }

        int mustBits() {
            int bits = 0;
            for (int t = 0; t < things; t++) {
                bits |= ofThing(t, MUST) << t;
            }
            return bits;
        }

        int allPeople() {
            int sum = 0;
            for (int g = 0; g < groups; g++) {
                sum += ofGroup(g, PEOPLE);
            }
            return sum;
        }

        /** Hours of the day as bits; bits above the day's last wrap round to its first. */
        int hoursOf(int thing, int shift) {
            int lasting = (1 << ofThing(thing, LASTING)) - 1;
            int from = (ofThing(thing, FROM) + shift) % DAY;
            return (lasting << from | lasting >> DAY - from) & (1 << DAY) - 1;
        }

        void parse() {
            forgetParts();
            faultAt = NONE;
            at = 0;
            boolean more = length > 0;
            for (int part = 0; part < TEXT_MOST && more; part++) {
                parsePart();
                more = faultAt == NONE && at < length;
                if (more) {
                    parseBetween();
                    more = faultAt == NONE;
                }
            }
            if (faultAt != NONE) {
                forgetParts();
            }
        }

        private void forgetParts() {
            things = 0;
            groups = 0;
            handleBits = 0;
        }

        private void parseBetween() {
            if (next() == ';') {
                at++;
            } else {
                faultAt = at;
            }
        }

        private void parsePart() {
            int kind = next();
            if (kind == 't' && things < THINGS_MOST) {
                at++;
                parseThing(things * THING_ROW);
                things++;
            } else if (kind == 'h') {
                at++;
                parseHandle();
            } else if (kind == 'g' && groups < GROUPS_MOST) {
                at++;
                parseGroup(groups * GROUP_ROW);
                groups++;
            } else {
                faultAt = at;
            }
        }

        private void parseThing(int row) {
            thingRows[row + NEED] = twoFigures(1, 40);
            thingRows[row + FROM] = twoFigures(0, DAY - 1);
            thingRows[row + LASTING] = twoFigures(1, DAY);
            thingRows[row + MUST] = 0;
            if (faultAt == NONE && next() == '!') {
                thingRows[row + MUST] = 1;
                at++;
            }
        }

        private void parseHandle() {
            int street = oneFigure(STREETS - 1);
            if (faultAt == NONE) {
                refuseLast(bit(handleBits, street) == 1);
                handleBits |= 1 << street;
            }
        }

        private void parseGroup(int row) {
            groupRows[row + PEOPLE] = twoFigures(1, 99);
            groupRows[row + WHEN] = twoFigures(0, DAY - 1);
            groupRows[row + STREET] = oneFigure(STREETS - 1);
            groupRows[row + STREET + 1] = oneFigure(STREETS - 1);
            if (faultAt == NONE) {
                refuseLast(groupRows[row + STREET] == groupRows[row + STREET + 1]);
            }
            groupRows[row + LONG] = oneFigure(9);
            groupRows[row + LONG + 1] = oneFigure(9);
        }

        private void refuseLast(boolean refused) {
            if (refused) {
                faultAt = at - 1;
            }
        }

        private int next() {
            return at < length ? text[at] : NONE;
        }

        private int oneFigure(int most) {
            int v = figure();
            if (faultAt == NONE) {
                refuseLast(v > most);
            }
            return v;
        }

        private int twoFigures(int least, int most) {
            int tens = figure();
            int v = tens * 10 + figure();
            if (faultAt == NONE && !within(v, least, most)) {
                faultAt = at - 2;
            }
            return v;
        }

        /** Takes nothing behind a fault: the first one is the one that is told. */
        private int figure() {
            if (faultAt != NONE) {
                return 0;
            }
            int b = next();
            if (!within(b, '0', '9')) {
                faultAt = at;
                return 0;
            }
            at++;
            return b - '0';
        }
    }

    /** Which street each group goes by where some streets have handles, and what that winds. */
    private static final class Ways {
        final Town town;
        final int[] settings;

        Ways(Town town, int[] settings) {
            this.town = town;
            this.settings = settings;
        }

        /** 0 for the first of its streets, 1 for the second. */
        int sideOf(int group, int handles, int asked) {
            int first = bit(handles, town.ofGroup(group, STREET));
            int second = bit(handles, town.ofGroup(group, STREET + 1));
            if (asked == 1 && first != second) {
                return second;
            }
            int firstCost = town.ofGroup(group, LONG) + first * settings[TOIL];
            int secondCost = town.ofGroup(group, LONG + 1) + second * settings[TOIL];
            return secondCost < firstCost ? 1 : 0;
        }

        int costOfAll(int handles, int asked) {
            int sum = 0;
            for (int g = 0; g < town.groups; g++) {
                int side = sideOf(g, handles, asked);
                int handle = bit(handles, town.ofGroup(g, STREET + side));
                int cost = town.ofGroup(g, LONG + side) + handle * settings[TOIL];
                sum += town.ofGroup(g, PEOPLE) * cost;
            }
            return sum;
        }

        int windingOfGroup(int group, int handles) {
            int side = sideOf(group, handles, settings[ASKED]);
            int handle = bit(handles, town.ofGroup(group, STREET + side));
            return handle * settings[GIVE] * town.ofGroup(group, PEOPLE);
        }

        int windingOf(int hour, int handles) {
            int sum = 0;
            for (int g = 0; g < town.groups; g++) {
                if (town.ofGroup(g, WHEN) == hour) {
                    sum += windingOfGroup(g, handles);
                }
            }
            return sum;
        }

        int windingOfDay(int handles) {
            int sum = 0;
            for (int g = 0; g < town.groups; g++) {
                sum += windingOfGroup(g, handles);
            }
            return sum;
        }

        void windDay(int handles, int[] gains) {
            Arrays.fill(gains, 0);
            for (int g = 0; g < town.groups; g++) {
                gains[town.ofGroup(g, WHEN)] += windingOfGroup(g, handles);
            }
        }
    }

    /** The two springs as they go from hour to hour. */
    private static final class Spring {
        final int[] gains = new int[DAY];
        final int[] needs = new int[THINGS_MOST];
        final int[] hoursOf = new int[THINGS_MOST];
        int things = 0;
        int most = 0;
        int tire = 0;
        int link = 0;
        int drain = 0;
        int start = 0;
        int secondStart = 0;
        int thiefHour = NONE;
        int thiefTakes = 0;
        int level = 0;
        int second = 0;
        int spilt = 0;
        int flowed = 0;
        int standing = 0;

        void take(int[] settings) {
            most = settings[MOST];
            tire = settings[TIRE];
            link = settings[LINK];
            drain = settings[DRAIN];
            start = Math.min(settings[START], most);
            secondStart = settings[SECOND];
        }

        void rob(int hour, int takes) {
            thiefHour = hour;
            thiefTakes = takes;
        }

        void begin() {
            level = start;
            second = secondStart;
        }

        void turn(int hourOfDay) {
            if (hourOfDay == thiefHour) {
                level -= Math.min(thiefTakes, level);
            }
            int came = Math.min(gains[hourOfDay], most - level);
            spilt = gains[hourOfDay] - came;
            level += came;
            draw(hourOfDay);
            level -= level * tire / 100;
            second -= Math.min(drain, second);
            pullChain();
        }

        int leastLevel(int hours) {
            begin();
            int least = LEVEL_MOST;
            for (int h = 0; h < hours; h++) {
                turn(h % DAY);
                least = Math.min(least, level);
            }
            return least;
        }

        boolean allGoWithin(int hours) {
            begin();
            for (int h = 0; h < hours; h++) {
                turn(h % DAY);
                if (standing != 0) {
                    return false;
                }
            }
            return true;
        }

        private void draw(int hourOfDay) {
            standing = 0;
            for (int t = 0; t < things; t++) {
                if (bit(hoursOf[t], hourOfDay) == 0) {
                    continue;
                }
                if (level >= needs[t]) {
                    level -= needs[t];
                } else {
                    standing |= 1 << t;
                }
            }
        }

        private void pullChain() {
            if (second > level) {
                int half = Math.min((second - level) / 2, link);
                flowed = Math.min(half, most - level);
            } else {
                flowed = -Math.min((level - second) / 2, link);
            }
            level += flowed;
            second -= flowed;
        }
    }

    /** Ten days as they go, hour by hour. */
    private static final class Days {
        final int[] levels = new int[HOURS];
        final int[] seconds = new int[HOURS];
        final int[] flows = new int[HOURS];
        final int[] spilt = new int[HOURS];
        final int[] standing = new int[HOURS];
        boolean known = false;

        void record(Spring spring) {
            spring.begin();
            for (int h = 0; h < HOURS; h++) {
                spring.turn(h % DAY);
                levels[h] = spring.level;
                seconds[h] = spring.second;
                flows[h] = spring.flowed;
                spilt[h] = spring.spilt;
                standing[h] = spring.standing;
            }
            known = true;
        }

        int hoursStood(int thing, int hours) {
            int sum = 0;
            for (int h = 0; h < hours; h++) {
                sum += bit(standing[h], thing);
            }
            return sum;
        }

        int spiltWithin(int hours) {
            int sum = 0;
            for (int h = 0; h < hours; h++) {
                sum += spilt[h];
            }
            return sum;
        }

        int worstHour(int hours) {
            int worst = 0;
            for (int h = 1; h < hours; h++) {
                if (levels[h] < levels[worst]) {
                    worst = h;
                }
            }
            return worst;
        }

        int firstStanding() {
            for (int h = 0; h < HOURS; h++) {
                if (standing[h] != 0) {
                    return h;
                }
            }
            return NONE;
        }
    }

    /** When the things that may wait should go. */
    private static final class Plan {
        final int[] waiting = new int[WAITING_MOST];
        final int[] trial = new int[WAITING_MOST];
        final int[] bestShifts = new int[THINGS_MOST];
        int size = 0;
        int mustBits = 0;
        int mustStood = 0;
        int allStood = 0;
        boolean known = false;

        int shiftOf(int thing) {
            return bestShifts[thing];
        }

        /** Rows come from the least on, so that of like ones the first one stays. */
        void search(Spring spring, Town town, int waitingBits) {
            gather(waitingBits);
            mustBits = town.mustBits();
            mustStood = STOOD_ABOVE;
            allStood = STOOD_ABOVE;
            int rows = 1;
            for (int w = 0; w < size; w++) {
                rows *= DAY;
            }
            for (int row = 0; row < rows && allStood > 0; row++) {
                layTrial(row);
                for (int w = 0; w < size; w++) {
                    spring.hoursOf[waiting[w]] = town.hoursOf(waiting[w], trial[w]);
                }
                tryOut(spring);
            }
            known = true;
        }

        private void gather(int waitingBits) {
            size = 0;
            for (int t = 0; t < THINGS_MOST && size < WAITING_MOST; t++) {
                if (bit(waitingBits, t) == 1) {
                    waiting[size] = t;
                    size++;
                }
            }
        }

        /** The first thing's shift is the row's highest figure, to the base of a day. */
        private void layTrial(int row) {
            int rest = row;
            for (int w = size - 1; w >= 0; w--) {
                trial[w] = rest % DAY;
                rest /= DAY;
            }
        }

        /** Hours stood only grow, so a trial ends as soon as it can no longer be better. */
        private void tryOut(Spring spring) {
            int must = 0;
            int all = 0;
            spring.begin();
            for (int h = 0; h < TRIAL_HOURS; h++) {
                spring.turn(h % DAY);
                if (spring.standing != 0) {
                    must += Integer.bitCount(spring.standing & mustBits);
                    all += Integer.bitCount(spring.standing);
                    if (must > mustStood || must == mustStood && all >= allStood) {
                        return;
                    }
                }
            }
            keepTrial(must, all);
        }

        private void keepTrial(int must, int all) {
            mustStood = must;
            allStood = all;
            for (int w = 0; w < size; w++) {
                bestShifts[waiting[w]] = trial[w];
            }
        }
    }

    /** Levels that were seen, and the thieves that they fit. */
    private static final class Watch {
        final int[] seenHours = new int[SEEN_MOST];
        final int[] seenLevels = new int[SEEN_MOST];
        final int[] due = new int[HOURS];
        int size = 0;
        int hoursDue = 0;
        boolean clash = false;
        int thieves = 0;
        int firstThief = NONE;
        boolean known = false;

        void note(int hour, int level) {
            if (size < SEEN_MOST) {
                seenHours[size] = hour;
                seenLevels[size] = level;
                size++;
                known = false;
            }
        }

        void clearNotes() {
            size = 0;
            known = false;
        }

        int differing(int[] levels) {
            int sum = 0;
            for (int i = 0; i < size; i++) {
                sum += levels[seenHours[i]] == seenLevels[i] ? 0 : 1;
            }
            return sum;
        }

        void search(Spring spring) {
            layDue();
            thieves = 0;
            firstThief = NONE;
            for (int hour = 0; hour < DAY && !clash; hour++) {
                for (int v = 1; v <= TAKE_MOST; v++) {
                    spring.rob(hour, v);
                    if (fits(spring)) {
                        firstThief = thieves == 0 ? 100 * hour + v : firstThief;
                        thieves++;
                    }
                }
            }
            known = true;
        }

        /** No thief fits an hour that was seen at two levels: those clash. */
        private void layDue() {
            Arrays.fill(due, NONE);
            hoursDue = 0;
            clash = false;
            for (int i = 0; i < size; i++) {
                int hour = seenHours[i];
                clash = clash || due[hour] != NONE && due[hour] != seenLevels[i];
                due[hour] = seenLevels[i];
                hoursDue = Math.max(hoursDue, hour + 1);
            }
        }

        private boolean fits(Spring spring) {
            spring.begin();
            for (int h = 0; h < hoursDue; h++) {
                spring.turn(h % DAY);
                if (due[h] != NONE && due[h] != spring.level) {
                    return false;
                }
            }
            return true;
        }
    }

    /** A row of items; a lost one keeps its room for the next row. */
    private static final class Sheet {
        final int[] items = new int[ITEMS_MOST];
        int form = 0;
        int size = 0;
        boolean gone = true;

        void renew(int newForm, int n) {
            Arrays.fill(items, 0);
            form = newForm;
            size = n;
            gone = false;
        }

        boolean hasRun(int from, int n) {
            return from >= 0 && n >= 0 && n <= size && from <= size - n;
        }

        void store(int i, int v) {
            items[i] = form == 0 ? (byte) v : form == 1 ? (short) v : v;
        }
    }
}
