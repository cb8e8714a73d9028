import java.util.Arrays;

/** A house of places and ways through which strangers are led by signs alone. */
public final class StrangerSigns {
    public static final int BAD = -1000000001, NO = -1000000002, FULL = -1000000003, NONE = -1000000005, NOTHING = -1000000011, KIND = -1000000012, INDEX = -1000000013, SIZE = -1000000014;

    private static final int MOST_PLACES = 12, MOST_WAYS = 20, MOST_GOALS = 10, MOST_SIGNS = 14, MOST_TEXTS = 14;
    private static final int MOST_CHOSEN = 6, MOST_CHANGES = 16, MOST_BYTES = 96, MOST_WAITING = 60;
    private static final int DIRECTIONS = 8, HALF_TURN = 4, GROUPS = 4, FIRST_GROUP_NAME = 10, NAMES = 14;
    private static final int ENDS = MOST_PLACES * DIRECTIONS;
    private static final int STAIRS = 1, GATE = 3, WAY_SORTS = 4, MOST_MINUTES = 30;
    private static final int HOURS = 24, LAST_DAY = 999, MOST_HOURS = 48;
    private static final int SIGN = 0, OVER = 1, DOOR = 2, LIGHT = 3, MAP = 4, HAND = 5, KINDS = 6;
    private static final int MOST_ROWS = 6, MOST_SEEN = 6, MOST_DAYS = 99, MOST_ASTRAY = 9999;
    private static final int LIGHT_KEY = 0, GATE_KEY = 1, OBEY_KEY = 2, KEYS = 3;
    private static final int ARRIVED = 1, LOST = 2, SENT_ROUND = 3;
    private static final int LAWS = 4, BEYOND_MOST = 1, QUARREL = 2, NO_WAY = 3, DROPPED = 4, CROSSING = 3;
    private static final int MOST_STRANGERS = 60, MOST_CHECKED = 30;
    private static final int SHEETS = 4, SLOTS = 5, MOST_CELLS = 24, MISSING = -1, BYTES = 0, SHORTS = 1;
    private static final int HOLDS_NOTHING = 0, HOLDS_SIGN = 1, HOLDS_SHEET = 2, HOLDS_NUMBER = 3;
    private static final int FAULT_BASE = -100;
    /** Stands where a place, a way, a sign or a direction is lacking inside. */
    private static final int LACKING = -1;
    /** Longer than any way through a house. */
    private static final int NEVER = 1000000;
    /** A walk comes to an end within 41 ways: 20 ways have 40 ends, and the next coming is a second one. */
    private static final int MOST_STEPS = 60;

    private final House house = new House();
    private final House image = new House();
    private boolean kept = false;
    private final Walker[] walkers = {new Walker(new Roads(house, 0)), new Walker(new Roads(house, 1))};
    private final Changes changes = new Changes();
    private final Reader reader = new Reader();
    private final Sheet[] sheets = new Sheet[SHEETS];
    private final Slot[] slots = new Slot[SLOTS];
    private final int[] waiting = new int[MOST_WAITING];
    private int waitingCount = 0;

    public StrangerSigns() {
        for (int i = 0; i < SHEETS; i++) {
            sheets[i] = new Sheet();
        }
        for (int i = 0; i < SLOTS; i++) {
            slots[i] = new Slot();
        }
    }

    // ---- places, ways, goals

    public int place() {
        if (house.placeCount >= MOST_PLACES) {
            return FULL;
        }
        return house.placeCount++;
    }

    public int way(int one, int other, int direction, int sort) {
        if (!house.hasPlace(one) || !house.hasPlace(other) || one == other) {
            return BAD;
        }
        if (!isWithin(direction, DIRECTIONS) || !isWaySort(sort)) {
            return BAD;
        }
        if (house.wayCount >= MOST_WAYS) {
            return FULL;
        }
        if (house.wayFrom(one, direction) != LACKING || house.wayFrom(other, opposite(direction)) != LACKING) {
            return NO;
        }
        return house.addWay(one, other, direction, sort);
    }

    public int wayTold(int way, int what) {
        if (!isWithin(way, house.wayCount)) {
            return BAD;
        }
        Way asked = house.ways[way];
        switch (what) {
            case 0: return asked.one;
            case 1: return asked.other;
            case 2: return asked.direction;
            case 3: return asked.sort;
            case 4: return asked.minutes;
            case 5: return bit(asked.isShut);
            case 6: return bit(house.passes(asked, 0));
            case 7: return bit(house.passes(asked, 1));
            default: return BAD;
        }
    }

    public int shut(int way, boolean is) {
        if (!isWithin(way, house.wayCount)) {
            return BAD;
        }
        Way asked = house.ways[way];
        boolean isNew = asked.isShut != is;
        asked.isShut = is;
        return bit(isNew);
    }

    public int goal(int place, int group) {
        if (!house.hasPlace(place) || group < LACKING || group >= GROUPS) {
            return BAD;
        }
        if (house.goalCount >= MOST_GOALS) {
            return FULL;
        }
        house.goalPlaces[house.goalCount] = place;
        house.goalGroups[house.goalCount] = group;
        return house.goalCount++;
    }

    public int goalTold(int goal, int what) {
        if (!house.hasGoal(goal) || !isWithin(what, 2)) {
            return BAD;
        }
        return what == 0 ? house.goalPlaces[goal] : orNone(house.goalGroups[goal]);
    }

    public int hours(int n) {
        if (n < 1 || n > MOST_HOURS) {
            return BAD;
        }
        int hour = house.hour + n;
        int day = house.day + hour / HOURS;
        if (day > LAST_DAY) {
            return FULL;
        }
        house.hour = hour % HOURS;
        house.day = day;
        return house.hour;
    }

    // ---- signs

    public int sign(int place, int kind, int days) {
        if (!house.hasPlace(place) || !isWithin(kind, KINDS)) {
            return BAD;
        }
        if (kind == HAND && (days < 1 || days > MOST_DAYS)) {
            return BAD;
        }
        if (house.signCount >= MOST_SIGNS) {
            return FULL;
        }
        house.signs[house.signCount].begin(place, kind, kind == HAND ? house.day + days : NONE);
        changes.forget();
        return house.signCount++;
    }

    public int told(int sign, int what) {
        if (!house.hasSign(sign)) {
            return BAD;
        }
        Sign asked = house.signs[sign];
        switch (what) {
            case 0: return asked.place;
            case 1: return asked.kind;
            case 2: return asked.rowCount;
            case 3: return Sign.mostOf(asked.kind);
            case 4: return Sign.seenOf(asked.kind);
            case 5: return Sign.priceOf(asked.kind, asked.rowCount);
            case 6: return bit(house.isLit(asked));
            case 7: return asked.astray;
            case 8: return asked.until;
            case 9: return bit(house.isObeyed(asked, 0));
            default: return BAD;
        }
    }

    public int as(int sign, int kind) {
        if (!house.hasSign(sign) || !isWithin(kind, KINDS)) {
            return BAD;
        }
        Sign asked = house.signs[sign];
        return Sign.isOfKind(asked.kind, kind) ? asked.rowCount : KIND;
    }

    public int turns(int sign, int kind) {
        if (!house.hasSign(sign) || !isWithin(kind, HAND)) {
            return BAD;
        }
        Sign asked = house.signs[sign];
        int before = asked.kind;
        if (before == HAND) {
            return NO;
        }
        asked.kind = kind;
        return before;
    }

    public int row(int sign, int name, int arrow) {
        if (!house.hasSign(sign) || !isWithin(name, NAMES) || !isWithin(arrow, DIRECTIONS)) {
            return BAD;
        }
        Sign asked = house.signs[sign];
        if (asked.rowCount >= Sign.mostOf(asked.kind)) {
            return FULL;
        }
        changes.note(house);
        asked.addRow(name, arrow);
        return asked.rowCount;
    }

    public int rowTold(int sign, int row, int what) {
        if (!house.hasSign(sign) || !isWithin(what, 2)) {
            return BAD;
        }
        Sign asked = house.signs[sign];
        if (!isWithin(row, asked.rowCount)) {
            return NONE;
        }
        return what == 0 ? asked.names[row] : asked.arrows[row];
    }

    public int drop(int sign, int row) {
        if (!house.hasRow(sign, row)) {
            return BAD;
        }
        changes.note(house);
        house.signs[sign].removeRow(row);
        return house.signs[sign].rowCount;
    }

    public int aim(int sign, int row, int arrow) {
        if (!house.hasRow(sign, row) || !isWithin(arrow, DIRECTIONS)) {
            return BAD;
        }
        changes.note(house);
        int before = house.signs[sign].arrows[row];
        house.signs[sign].arrows[row] = arrow;
        return before;
    }

    public int undo() {
        if (changes.noted == 0) {
            return NO;
        }
        changes.takeBack(house);
        return changes.noted;
    }

    // ---- texts

    public int feed(int a, int b, int c) {
        if (reader.length + 12 > MOST_BYTES) {
            return FULL;
        }
        reader.append(a);
        reader.append(b);
        reader.append(c);
        return reader.length;
    }

    public int trim(int n) {
        if (n < 0 || n > reader.length) {
            return BAD;
        }
        reader.length = n;
        return n;
    }

    public int text() {
        int fault = reader.readTape();
        if (fault != LACKING) {
            return FAULT_BASE - fault;
        }
        if (house.textCount >= MOST_TEXTS) {
            return FULL;
        }
        Text read = reader.makeText();
        house.texts[house.textCount] = read;
        house.counting[read.key] = house.textCount;
        return house.textCount++;
    }

    public int textTold(int text, int what) {
        if (!isWithin(text, house.textCount) || !isWithin(what, 2)) {
            return BAD;
        }
        Text asked = house.texts[text];
        if (asked == null) {
            return BAD;
        }
        return what == 0 ? asked.key : asked.leaves;
    }

    public int why(int key) {
        return isWithin(key, KEYS) ? orNone(house.counting[key]) : BAD;
    }

    // ---- walks, laws

    public int walk(int place, int goal, int wheels, int what) {
        if (!isTrip(place, goal, wheels) || !isWithin(what, 5)) {
            return BAD;
        }
        Walker walker = walkOf(place, goal, wheels);
        switch (what) {
            case 0: return walker.ending;
            case 1: return walker.minutes;
            case 2: return walker.here;
            case 3: return walker.gone;
            default: return orNone(walker.lastFollowed);
        }
    }

    public int via(int place, int goal, int wheels, int i) {
        if (!isTrip(place, goal, wheels) || i < 0) {
            return BAD;
        }
        Walker walker = walkOf(place, goal, wheels);
        return i <= walker.gone && i < walker.passed.length ? walker.passed[i] : NONE;
    }

    public int far(int place, int goal, int wheels) {
        if (!isTrip(place, goal, wheels)) {
            return BAD;
        }
        Roads roads = roadsFor(wheels);
        roads.measure(goal);
        int minutes = roads.minutesFrom(place, goal);
        return minutes < NEVER ? minutes : NONE;
    }

    public int next(int place, int goal, int wheels) {
        if (!isTrip(place, goal, wheels)) {
            return BAD;
        }
        Roads roads = roadsFor(wheels);
        roads.measure(goal);
        return orNone(roads.heading(place, goal));
    }

    public int breaches(int which) {
        if (which < 0 || which > LAWS) {
            return BAD;
        }
        int found = 0;
        for (int sign = 0; sign < house.signCount; sign++) {
            for (int row = 0; row < house.signs[sign].rowCount; row++) {
                for (int law = 1; law <= LAWS; law++) {
                    if ((which == 0 || which == law) && Laws.isBroken(house, sign, row, law)) {
                        found++;
                    }
                }
            }
        }
        return found;
    }

    public int breach(int i, int what) {
        if (!isWithin(what, 3) || i < 0) {
            return BAD;
        }
        int ahead = 0;
        for (int sign = 0; sign < house.signCount; sign++) {
            for (int row = 0; row < house.signs[sign].rowCount; row++) {
                for (int law = 1; law <= LAWS; law++) {
                    if (!Laws.isBroken(house, sign, row, law)) {
                        continue;
                    }
                    if (ahead == i) {
                        return what == 0 ? sign : what == 1 ? row : law;
                    }
                    ahead++;
                }
            }
        }
        return NONE;
    }

    public int needs(int place, int wheels) {
        if (!house.hasPlace(place) || !isWithin(wheels, 2)) {
            return BAD;
        }
        Roads roads = roadsFor(wheels);
        roads.measureAll();
        int rows = 0;
        for (int group = LACKING; group < GROUPS; group++) {
            rows += roads.needsOf(place, group);
        }
        return rows;
    }

    public int wrong(int wheels) {
        return isWithin(wheels, 2) ? wrongRows(wheels, false) : BAD;
    }

    public int mend(int wheels) {
        if (!isWithin(wheels, 2)) {
            return BAD;
        }
        changes.note(house);
        return wrongRows(wheels, true);
    }

    public int choose(int place) {
        if (!house.hasPlace(place)) {
            return BAD;
        }
        for (int i = 0; i < house.chosenCount; i++) {
            if (house.chosen[i] == place) {
                return NO;
            }
        }
        if (house.chosenCount >= MOST_CHOSEN) {
            return FULL;
        }
        house.chosen[house.chosenCount] = place;
        house.chosenCount++;
        return house.chosenCount;
    }

    public int clear() {
        int before = house.chosenCount;
        house.chosenCount = 0;
        return before;
    }

    public int fewest(int goal, int wheels) {
        if (!house.hasGoal(goal) || !isWithin(wheels, 2)) {
            return BAD;
        }
        Walker walker = walkers[wheels];
        walker.enter(house);
        walker.headFor(goal);
        walker.roads.measure(goal);
        int sets = 1 << house.chosenCount;
        for (int many = 0; many <= house.chosenCount; many++) {
            for (int set = 0; set < sets; set++) {
                if (Integer.bitCount(set) == many && walker.allArriveWith(set)) {
                    return set;
                }
            }
        }
        return NONE;
    }

    // ---- crowds

    public int seed(int v) {
        int before = house.z;
        house.z = v;
        return before;
    }

    public int strangers(int n) {
        if (n < 1 || n > MOST_STRANGERS) {
            return BAD;
        }
        if (house.placeCount == 0 || house.goalCount == 0) {
            return NO;
        }
        enterBoth(house);
        int arrived = 0;
        for (int i = 0; i < n; i++) {
            Walker walker = walkStranger(house);
            if (walker.ending == ARRIVED) {
                arrived++;
            } else if (walker.lastFollowed != LACKING) {
                house.signs[walker.lastFollowed].leadAstray();
            }
        }
        return arrived;
    }

    public int led() {
        int worst = NONE;
        int most = 0;
        for (int i = 0; i < house.signCount; i++) {
            if (house.signs[i].astray > most) {
                worst = i;
                most = house.signs[i].astray;
            }
        }
        return worst;
    }

    // ---- sheets, slots

    public int sheet(int sheet, int sort, int n) {
        if (!isWithin(sheet, SHEETS) || sort < MISSING || sort > SHORTS) {
            return BAD;
        }
        if (sort == MISSING) {
            sheets[sheet].become(MISSING, 0);
            return 0;
        }
        if (n > MOST_CELLS) {
            return BAD;
        }
        if (n < 0) {
            return SIZE;
        }
        sheets[sheet].become(sort, n);
        return n;
    }

    public int mark(int sheet, int place, int v) {
        if (!isWithin(sheet, SHEETS)) {
            return BAD;
        }
        Sheet asked = sheets[sheet];
        if (asked.sort == MISSING) {
            return NOTHING;
        }
        if (!isWithin(place, asked.size)) {
            return INDEX;
        }
        int before = asked.cells[place];
        asked.put(place, v);
        return before;
    }

    public int fill(int sign, int sheet) {
        if (!house.hasSign(sign) || !isWithin(sheet, SHEETS)) {
            return BAD;
        }
        if (sheets[sheet].sort == MISSING) {
            return NOTHING;
        }
        changes.note(house);
        house.signs[sign].takeRows(sheets[sheet]);
        return house.signs[sign].rowCount;
    }

    public int copy(int from, int place, int to, int at, int many) {
        if (!isWithin(from, SHEETS) || !isWithin(to, SHEETS)) {
            return BAD;
        }
        Sheet source = sheets[from];
        Sheet target = sheets[to];
        if (source.sort == MISSING || target.sort == MISSING) {
            return NOTHING;
        }
        if (source.sort != target.sort) {
            return KIND;
        }
        if (!source.hasCells(place, many) || !target.hasCells(at, many)) {
            return INDEX;
        }
        System.arraycopy(source.cells, place, target.cells, at, many);
        return many;
    }

    public int lay(int slot, int thing, int k) {
        if (!isWithin(slot, SLOTS) || !isWithin(thing, 4)) {
            return BAD;
        }
        if (thing == HOLDS_SIGN && !house.hasSign(k) || thing == HOLDS_SHEET && !isWithin(k, SHEETS)) {
            return BAD;
        }
        if (thing == HOLDS_SHEET && sheets[k].sort == MISSING) {
            return NOTHING;
        }
        Slot asked = slots[slot];
        int before = asked.holds;
        asked.holds = thing;
        if (thing == HOLDS_SIGN) {
            asked.kind = house.signs[k].kind;
            asked.rowCount = house.signs[k].rowCount;
        } else if (thing == HOLDS_SHEET) {
            asked.sheet.becomeAs(sheets[k]);
        } else {
            asked.number = k;
        }
        return before;
    }

    public int ask(int slot, int kind) {
        if (!isWithin(slot, SLOTS) || !isWithin(kind, KINDS)) {
            return BAD;
        }
        Slot asked = slots[slot];
        if (asked.holds == HOLDS_NOTHING) {
            return NOTHING;
        }
        if (asked.holds != HOLDS_SIGN || !Sign.isOfKind(asked.kind, kind)) {
            return KIND;
        }
        return Sign.priceOf(asked.kind, asked.rowCount);
    }

    public int item(int slot, int place) {
        if (!isWithin(slot, SLOTS)) {
            return BAD;
        }
        Slot asked = slots[slot];
        if (asked.holds == HOLDS_NOTHING) {
            return NOTHING;
        }
        if (asked.holds != HOLDS_SHEET) {
            return KIND;
        }
        return isWithin(place, asked.sheet.size) ? asked.sheet.cells[place] : INDEX;
    }

    public int rest(int slot, int n) {
        if (!isWithin(slot, SLOTS)) {
            return BAD;
        }
        Slot asked = slots[slot];
        if (asked.holds == HOLDS_NOTHING) {
            return NOTHING;
        }
        if (asked.holds != HOLDS_NUMBER) {
            return KIND;
        }
        return n == 0 ? NO : asked.number % n;
    }

    // ---- rows, images

    public int tell(int v) {
        if (waitingCount >= MOST_WAITING) {
            return FULL;
        }
        waiting[waitingCount] = v;
        waitingCount++;
        return waitingCount;
    }

    public int check(int n) {
        int many = waitingCount;
        waitingCount = 0;
        if (n < 1 || n > MOST_CHECKED) {
            return BAD;
        }
        if (!kept || image.placeCount == 0 || image.goalCount == 0) {
            return NO;
        }
        // Walks are told from the image as it is, so what is drawn for them must not go on in it.
        int z = image.z;
        enterBoth(image);
        int right = rightNumbers(n, many);
        image.z = z;
        return right == 2 * n && many == 2 * n ? 0 : 1 + right;
    }

    public int keep() {
        image.becomeLike(house);
        kept = true;
        return house.signCount;
    }

    public int back() {
        if (!kept) {
            return NO;
        }
        house.becomeLike(image);
        changes.forget();
        return house.signCount;
    }

    public int count(int what) {
        switch (what) {
            case 0: return house.placeCount;
            case 1: return house.wayCount;
            case 2: return house.goalCount;
            case 3: return house.signCount;
            case 4: return house.rowsOfAll();
            case 5: return house.textCount;
            case 6: return house.chosenCount;
            case 7: return changes.noted;
            case 8: return waitingCount;
            case 9: return reader.length;
            case 10: return house.hour;
            case 11: return house.day;
            case 12: return house.z;
            default: return BAD;
        }
    }

    // ---- what several calls share

    private static boolean isWithin(int v, int bound) {
        return v >= 0 && v < bound;
    }

    private static int bit(boolean is) {
        return is ? 1 : 0;
    }

    private static int orNone(int v) {
        return v == LACKING ? NONE : v;
    }

    private static int opposite(int direction) {
        return (direction + HALF_TURN) % DIRECTIONS;
    }

    private static boolean isWaySort(int sort) {
        int minutes = sort % 100;
        return isWithin(sort, 100 * WAY_SORTS) && minutes >= 1 && minutes <= MOST_MINUTES;
    }

    private boolean isTrip(int place, int goal, int wheels) {
        return house.hasPlace(place) && house.hasGoal(goal) && isWithin(wheels, 2);
    }

    private Roads roadsFor(int wheels) {
        Roads roads = walkers[wheels].roads;
        roads.survey(house);
        return roads;
    }

    private Walker walkOf(int place, int goal, int wheels) {
        Walker walker = walkers[wheels];
        walker.enter(house);
        walker.headFor(goal);
        walker.go(place);
        return walker;
    }

    private void enterBoth(House entered) {
        walkers[0].enter(entered);
        walkers[1].enter(entered);
    }

    private Walker walkStranger(House entered) {
        int place = entered.draw(entered.placeCount);
        int goal = entered.draw(entered.goalCount);
        Walker walker = entered.draw(4) == 0 ? walkers[1] : walkers[0];
        walker.headFor(goal);
        walker.go(place);
        return walker;
    }

    private int wrongRows(int wheels, boolean mended) {
        Roads roads = roadsFor(wheels);
        roads.measureAll();
        int found = 0;
        for (int i = 0; i < house.signCount; i++) {
            Sign sign = house.signs[i];
            for (int row = 0; row < sign.rowCount; row++) {
                int heading = roads.headingOfName(sign.place, sign.names[row]);
                if (heading != LACKING && heading != sign.arrows[row]) {
                    found++;
                    sign.arrows[row] = mended ? heading : sign.arrows[row];
                }
            }
        }
        return found;
    }

    /** How many of the numbers that waited stand right, up to the first that does not. */
    private int rightNumbers(int n, int many) {
        int right = 0;
        for (int i = 0; i < n; i++) {
            Walker walker = walkStranger(image);
            if (right >= many || waiting[right] != walker.ending) {
                return right;
            }
            right++;
            if (right >= many || waiting[right] != walker.minutes) {
                return right;
            }
            right++;
        }
        return right;
    }

    /** All that an image keeps. */
    private static final class House {
        final Way[] ways = new Way[MOST_WAYS];
        /** By place and direction: the way that leads there. */
        final int[] leading = new int[ENDS];
        final int[] goalPlaces = new int[MOST_GOALS];
        final int[] goalGroups = new int[MOST_GOALS];
        final Sign[] signs = new Sign[MOST_SIGNS];
        final Text[] texts = new Text[MOST_TEXTS];
        /** By key: the text that counts. */
        final int[] counting = new int[KEYS];
        final int[] chosen = new int[MOST_CHOSEN];
        int placeCount = 0, wayCount = 0, goalCount = 0, signCount = 0, textCount = 0, chosenCount = 0;
        int hour = 8, day = 0, z = 1;

        House() {
            for (int i = 0; i < MOST_WAYS; i++) {
                ways[i] = new Way();
            }
            for (int i = 0; i < MOST_SIGNS; i++) {
                signs[i] = new Sign();
            }
            Arrays.fill(leading, LACKING);
            Arrays.fill(counting, LACKING);
        }

        void becomeLike(House model) {
            for (int i = 0; i < model.wayCount; i++) {
                ways[i].becomeAs(model.ways[i]);
            }
            for (int i = 0; i < model.signCount; i++) {
                signs[i].becomeAs(model.signs[i]);
            }
            for (int i = 0; i < model.textCount; i++) {
                texts[i] = model.texts[i];
            }
            System.arraycopy(model.leading, 0, leading, 0, ENDS);
            System.arraycopy(model.goalPlaces, 0, goalPlaces, 0, MOST_GOALS);
            System.arraycopy(model.goalGroups, 0, goalGroups, 0, MOST_GOALS);
            System.arraycopy(model.counting, 0, counting, 0, KEYS);
            System.arraycopy(model.chosen, 0, chosen, 0, MOST_CHOSEN);
            placeCount = model.placeCount;
            wayCount = model.wayCount;
            goalCount = model.goalCount;
            signCount = model.signCount;
            textCount = model.textCount;
            chosenCount = model.chosenCount;
            hour = model.hour;
            day = model.day;
            z = model.z;
        }

        boolean hasPlace(int v) {
            return isWithin(v, placeCount);
        }

        boolean hasGoal(int v) {
            return isWithin(v, goalCount);
        }

        boolean hasSign(int v) {
            return isWithin(v, signCount);
        }

        boolean hasRow(int sign, int v) {
            return hasSign(sign) && isWithin(v, signs[sign].rowCount);
        }

        int rowsOfAll() {
            int rows = 0;
            for (int i = 0; i < signCount; i++) {
                rows += signs[i].rowCount;
            }
            return rows;
        }

        int addWay(int one, int other, int direction, int sort) {
            Way added = ways[wayCount];
            added.one = one;
            added.other = other;
            added.direction = direction;
            added.sort = sort / 100;
            added.minutes = sort % 100;
            added.isShut = false;
            leading[one * DIRECTIONS + direction] = wayCount;
            leading[other * DIRECTIONS + opposite(direction)] = wayCount;
            return wayCount++;
        }

        /** None leads from a place that is not there, nor in a direction that is lacking. */
        int wayFrom(int place, int direction) {
            boolean isEnd = place >= 0 && place < MOST_PLACES && direction >= 0 && direction < DIRECTIONS;
            return isEnd ? leading[place * DIRECTIONS + direction] : LACKING;
        }

        int waysFrom(int place) {
            int many = 0;
            for (int direction = 0; direction < DIRECTIONS; direction++) {
                many += bit(wayFrom(place, direction) != LACKING);
            }
            return many;
        }

        boolean passes(Way way, int wheels) {
            if (way.isShut || way.sort == STAIRS && wheels == 1) {
                return false;
            }
            if (way.sort != GATE) {
                return true;
            }
            Text text = textFor(GATE_KEY);
            return text == null ? hour >= 6 && hour <= 21 : text.value(hour, day, way.minutes, 0) != 0;
        }

        boolean isLit(Sign sign) {
            if (sign.kind == HAND) {
                return day < sign.until;
            }
            if (sign.kind != LIGHT) {
                return true;
            }
            Text text = textFor(LIGHT_KEY);
            return text == null ? hour >= 18 || hour < 6 : text.value(hour, day, sign.rowCount, 0) != 0;
        }

        boolean isObeyed(Sign sign, int wheels) {
            Text text = textFor(OBEY_KEY);
            return text == null || text.value(sign.kind, Sign.seenOf(sign.kind), wheels, hour) != 0;
        }

        private Text textFor(int key) {
            int number = counting[key];
            return isWithin(number, textCount) ? texts[number] : null;
        }

        int draw(int bound) {
            z = z * 1103515245 + 12345;
            return bound < 1 ? 0 : (z >>> 8) % bound;
        }
    }

    /** Leads from its one place in its direction, from the other one in the opposite. */
    private static final class Way {
        int one, other, direction, sort, minutes;
        boolean isShut;

        void becomeAs(Way model) {
            one = model.one;
            other = model.other;
            direction = model.direction;
            sort = model.sort;
            minutes = model.minutes;
            isShut = model.isShut;
        }

        int endFrom(int place) {
            return place == one ? other : one;
        }
    }

    private static final class Sign {
        /** By kind: the one above it. */
        private static final int[] ABOVE = {-1, 0, 0, 1, 2, 0};

        int place, kind, until, astray, rowCount;
        final int[] names = new int[MOST_ROWS];
        final int[] arrows = new int[MOST_ROWS];

        private static int mostOf(int kind) {
            switch (kind) {
                case OVER: return mostOf(SIGN) + 1;
                case LIGHT: return mostOf(OVER) - 2;
                case DOOR: return 2;
                case MAP: return 3 * mostOf(DOOR);
                case HAND: return mostOf(SIGN) - 3;
                default: return 4;
            }
        }

        private static int seenOf(int kind) {
            switch (kind) {
                case OVER: return seenOf(SIGN) + 2;
                case LIGHT: return seenOf(OVER);
                case DOOR: return 1;
                case MAP: return seenOf(DOOR);
                case HAND: return 2 * seenOf(SIGN);
                default: return 3;
            }
        }

        private static int priceOf(int kind, int rows) {
            switch (kind) {
                case OVER: return priceOf(SIGN, rows) + 5;
                case LIGHT: return 2 * priceOf(OVER, rows);
                case DOOR: return priceOf(SIGN, rows) / 2;
                case MAP: return priceOf(DOOR, rows) + 8;
                case HAND: return 1;
                default: return 10 + 2 * rows;
            }
        }

        /** Whether a kind is the wanted one or stands under it. */
        static boolean isOfKind(int kind, int wanted) {
            int each = kind;
            for (int i = 0; i < KINDS && isWithin(each, KINDS); i++) {
                if (each == wanted) {
                    return true;
                }
                each = ABOVE[each];
            }
            return false;
        }

        void begin(int newPlace, int newKind, int newUntil) {
            place = newPlace;
            kind = newKind;
            until = newUntil;
            astray = 0;
            rowCount = 0;
        }

        void becomeAs(Sign model) {
            place = model.place;
            kind = model.kind;
            until = model.until;
            astray = model.astray;
            rowCount = model.rowCount;
            System.arraycopy(model.names, 0, names, 0, MOST_ROWS);
            System.arraycopy(model.arrows, 0, arrows, 0, MOST_ROWS);
        }

        void addRow(int name, int arrow) {
            if (rowCount < MOST_ROWS) {
                names[rowCount] = name;
                arrows[rowCount] = arrow;
                rowCount++;
            }
        }

        void removeRow(int row) {
            for (int i = row; i + 1 < rowCount; i++) {
                names[i] = names[i + 1];
                arrows[i] = arrows[i + 1];
            }
            rowCount--;
        }

        void takeRows(Sheet sheet) {
            int most = mostOf(kind);
            rowCount = 0;
            for (int i = 0; i < most && 2 * i + 1 < sheet.size; i++) {
                int name = sheet.cells[2 * i];
                int arrow = sheet.cells[2 * i + 1];
                if (!isWithin(name, NAMES) || !isWithin(arrow, DIRECTIONS)) {
                    return;
                }
                addRow(name, arrow);
            }
        }

        int firstRowOf(int name) {
            for (int row = 0; row < rowCount; row++) {
                if (names[row] == name) {
                    return row;
                }
            }
            return LACKING;
        }

        /** Whether one of the rows ahead of a bound has a name and another arrow. */
        boolean quarrels(int name, int arrow, int bound) {
            for (int row = 0; row < bound && row < rowCount; row++) {
                if (names[row] == name && arrows[row] != arrow) {
                    return true;
                }
            }
            return false;
        }

        void leadAstray() {
            astray = Math.min(astray + 1, MOST_ASTRAY);
        }
    }

    /** The ways that pass with or without wheels, and how far and whereto they lead. */
    private static final class Roads {
        final int wheels;
        private House house;
        private final boolean[] passing = new boolean[MOST_WAYS];
        /** By goal and place: the least minutes, or NEVER. */
        private final int[] least = new int[MOST_GOALS * MOST_PLACES];

        Roads(House surveyed, int withWheels) {
            house = surveyed;
            wheels = withWheels;
        }

        void survey(House surveyed) {
            house = surveyed;
            for (int i = 0; i < house.wayCount; i++) {
                passing[i] = house.passes(house.ways[i], wheels);
            }
        }

        /** The way that passes and leads from a place in a direction. */
        int openWay(int place, int direction) {
            int way = house.wayFrom(place, direction);
            return way != LACKING && passing[way] ? way : LACKING;
        }

        void measure(int goal) {
            int base = goal * MOST_PLACES;
            for (int place = 0; place < MOST_PLACES; place++) {
                least[base + place] = NEVER;
            }
            least[base + house.goalPlaces[goal]] = 0;
            boolean changed = true;
            for (int round = 0; round < MOST_PLACES && changed; round++) {
                changed = shorten(base);
            }
        }

        void measureAll() {
            for (int goal = 0; goal < house.goalCount; goal++) {
                measure(goal);
            }
        }

        private boolean shorten(int base) {
            boolean changed = false;
            for (int i = 0; i < house.wayCount; i++) {
                Way way = house.ways[i];
                if (passing[i] && shortenOne(base + way.one, base + way.other, way.minutes)) {
                    changed = true;
                } else if (passing[i] && shortenOne(base + way.other, base + way.one, way.minutes)) {
                    changed = true;
                }
            }
            return changed;
        }

        private boolean shortenOne(int at, int from, int minutes) {
            boolean shorter = least[from] + minutes < least[at];
            if (shorter) {
                least[at] = least[from] + minutes;
            }
            return shorter;
        }

        int minutesFrom(int place, int goal) {
            return least[goal * MOST_PLACES + place];
        }

        /** NEXT, of a goal that has been measured. */
        int heading(int place, int goal) {
            int minutes = minutesFrom(place, goal);
            if (minutes == 0 || minutes >= NEVER) {
                return LACKING;
            }
            for (int direction = 0; direction < DIRECTIONS; direction++) {
                int way = openWay(place, direction);
                if (way != LACKING && minutesBy(house.ways[way], place, goal) == minutes) {
                    return direction;
                }
            }
            return LACKING;
        }

        private int minutesBy(Way way, int place, int goal) {
            return way.minutes + minutesFrom(way.endFrom(place), goal);
        }

        /** The arrow that a row of a name should have at a place. */
        int headingOfName(int place, int name) {
            if (name >= FIRST_GROUP_NAME) {
                return headingOfGroup(place, name - FIRST_GROUP_NAME);
            }
            return house.hasGoal(name) ? heading(place, name) : LACKING;
        }

        private int headingOfGroup(int place, int group) {
            int nearest = NEVER;
            int found = LACKING;
            for (int goal = 0; goal < house.goalCount; goal++) {
                int minutes = minutesFrom(place, goal);
                if (house.goalGroups[goal] == group && minutes > 0 && minutes < nearest) {
                    nearest = minutes;
                    found = heading(place, goal);
                }
            }
            return found;
        }

        /** The rows that a place needs for the goals of a group, or for those that are in none. */
        int needsOf(int place, int group) {
            int many = 0;
            int first = LACKING;
            boolean together = group != LACKING;
            for (int goal = 0; goal < house.goalCount; goal++) {
                int heading = house.goalGroups[goal] == group ? heading(place, goal) : LACKING;
                if (heading != LACKING) {
                    first = many == 0 ? heading : first;
                    together = together && heading == first;
                    many++;
                }
            }
            return together ? Math.min(many, 1) : many;
        }
    }

    /** One who walks by signs; tells of the latest walk. */
    private static final class Walker {
        final Roads roads;
        private House house;
        /** The signs that are read, in their order. */
        private final int[] readFirst = new int[MOST_SIGNS];
        private int readCount = 0;
        private int goal = 0;
        /** By place: the sign that is followed there to the goal, and its arrow. */
        private final int[] followed = new int[MOST_PLACES];
        private final int[] arrows = new int[MOST_PLACES];
        /** By place: the arrow of a sign that is only thought to stand there. */
        private final int[] thought = new int[MOST_PLACES];
        /** By place and direction: the number of the latest walk that came there so. */
        private final int[] camePast = new int[ENDS];
        private int walkNumber = 0;
        final int[] passed = new int[MOST_STEPS + 1];
        int ending = LOST, minutes = 0, gone = 0, here = 0, lastFollowed = LACKING;

        Walker(Roads walked) {
            roads = walked;
            house = walked.house;
        }

        void enter(House entered) {
            house = entered;
            roads.survey(entered);
            readCount = 0;
            for (int seen = MOST_SEEN; seen > 0; seen--) {
                for (int i = 0; i < house.signCount; i++) {
                    Sign sign = house.signs[i];
                    if (Sign.seenOf(sign.kind) == seen && house.isLit(sign) && house.isObeyed(sign, roads.wheels)) {
                        readFirst[readCount] = i;
                        readCount++;
                    }
                }
            }
        }

        void headFor(int newGoal) {
            goal = newGoal;
            Arrays.fill(followed, LACKING);
            Arrays.fill(thought, LACKING);
            follow(goal);
            if (house.goalGroups[goal] != LACKING) {
                follow(FIRST_GROUP_NAME + house.goalGroups[goal]);
            }
        }

        /** Signs of a name are followed where none is followed yet. */
        private void follow(int name) {
            for (int i = 0; i < readCount; i++) {
                Sign sign = house.signs[readFirst[i]];
                int row = sign.firstRowOf(name);
                if (row != LACKING && followed[sign.place] == LACKING) {
                    followed[sign.place] = readFirst[i];
                    arrows[sign.place] = sign.arrows[row];
                }
            }
        }

        /** Walks from a place to the goal: what becomes of it. */
        int go(int place) {
            walkNumber++;
            minutes = 0;
            gone = 0;
            lastFollowed = LACKING;
            here = place;
            passed[0] = place;
            ending = 0;
            int came = LACKING;
            for (int step = 0; step < MOST_STEPS && ending == 0; step++) {
                if (here == house.goalPlaces[goal]) {
                    ending = ARRIVED;
                } else {
                    came = directionFrom(came);
                    take(came);
                }
            }
            return ending;
        }

        private void take(int direction) {
            int number = roads.openWay(here, direction);
            if (number == LACKING) {
                ending = LOST;
                return;
            }
            minutes += house.ways[number].minutes;
            here = house.ways[number].endFrom(here);
            gone++;
            passed[gone] = here;
            int coming = here * DIRECTIONS + direction;
            if (camePast[coming] == walkNumber) {
                ending = SENT_ROUND;
            }
            camePast[coming] = walkNumber;
        }

        /** The direction in which one goes from here who came in a direction; no way that passes need lead in it. */
        private int directionFrom(int came) {
            if (thought[here] != LACKING) {
                return thought[here];
            }
            if (followed[here] != LACKING) {
                lastFollowed = followed[here];
                return arrows[here];
            }
            if (roads.openWay(here, came) != LACKING) {
                return came;
            }
            return onlyDirection(came == LACKING ? LACKING : opposite(came));
        }

        private int onlyDirection(int backwards) {
            int found = LACKING;
            for (int direction = 0; direction < DIRECTIONS; direction++) {
                if (direction != backwards && roads.openWay(here, direction) != LACKING) {
                    if (found != LACKING) {
                        return LACKING;
                    }
                    found = direction;
                }
            }
            return found;
        }

        /** Whether all arrive who can, if signs to the measured goal stood at a set of the chosen places. */
        boolean allArriveWith(int set) {
            Arrays.fill(thought, LACKING);
            for (int i = 0; i < house.chosenCount; i++) {
                if ((set >> i & 1) == 1) {
                    thought[house.chosen[i]] = roads.heading(house.chosen[i], goal);
                }
            }
            for (int place = 0; place < house.placeCount; place++) {
                if (roads.heading(place, goal) != LACKING && go(place) != ARRIVED) {
                    return false;
                }
            }
            return true;
        }
    }

    /** The laws of rows: lit, obeyed, shut or not. */
    private static final class Laws {
        static boolean isBroken(House house, int number, int row, int law) {
            Sign sign = house.signs[number];
            int way = house.wayFrom(sign.place, sign.arrows[row]);
            switch (law) {
                case BEYOND_MOST: return row >= Sign.mostOf(sign.kind);
                case QUARREL: return isQuarrel(house, number, row);
                case NO_WAY: return way == LACKING;
                case DROPPED: return way != LACKING && isDropped(house, sign.names[row], house.ways[way].endFrom(sign.place));
                default: return false;
            }
        }

        private static boolean isQuarrel(House house, int number, int row) {
            Sign sign = house.signs[number];
            for (int i = 0; i < number; i++) {
                Sign lesser = house.signs[i];
                if (lesser.place == sign.place && lesser.quarrels(sign.names[row], sign.arrows[row], lesser.rowCount)) {
                    return true;
                }
            }
            return sign.quarrels(sign.names[row], sign.arrows[row], row);
        }

        private static boolean isDropped(House house, int name, int place) {
            if (house.waysFrom(place) < CROSSING || isThere(house, name, place)) {
                return false;
            }
            for (int i = 0; i < house.signCount; i++) {
                Sign sign = house.signs[i];
                if (sign.place == place && goesOnAt(house, sign, name)) {
                    return false;
                }
            }
            return true;
        }

        private static boolean isThere(House house, int name, int place) {
            for (int goal = 0; goal < house.goalCount; goal++) {
                if (house.goalPlaces[goal] == place && (goal == name || groupName(house, goal) == name)) {
                    return true;
                }
            }
            return false;
        }

        /** Whether a sign has a row of a name, of the group of that goal, or of a goal of that group. */
        private static boolean goesOnAt(House house, Sign sign, int name) {
            for (int row = 0; row < sign.rowCount; row++) {
                int other = sign.names[row];
                if (other == name || groupName(house, name) == other || groupName(house, other) == name) {
                    return true;
                }
            }
            return false;
        }

        /** The name of a goal's group, if a name is that of a goal in one. */
        private static int groupName(House house, int name) {
            boolean grouped = house.hasGoal(name) && house.goalGroups[name] != LACKING;
            return grouped ? FIRST_GROUP_NAME + house.goalGroups[name] : LACKING;
        }
    }

    /** The rows of all signs, as they were ahead of the latest changes. */
    private static final class Changes {
        private static final int PER_SIGN = MOST_ROWS + 1;

        /** By change and sign: how many rows, and each as name and arrow in one number. */
        private final int[][] before = new int[MOST_CHANGES][MOST_SIGNS * PER_SIGN];
        private int latest = 0;
        int noted = 0;

        void forget() {
            noted = 0;
        }

        void note(House house) {
            latest = (latest + 1) % MOST_CHANGES;
            noted = Math.min(noted + 1, MOST_CHANGES);
            int[] rows = before[latest];
            for (int i = 0; i < house.signCount; i++) {
                Sign sign = house.signs[i];
                rows[i * PER_SIGN] = sign.rowCount;
                for (int row = 0; row < sign.rowCount; row++) {
                    rows[i * PER_SIGN + 1 + row] = sign.names[row] * DIRECTIONS + sign.arrows[row];
                }
            }
        }

        void takeBack(House house) {
            int[] rows = before[latest];
            for (int i = 0; i < house.signCount; i++) {
                Sign sign = house.signs[i];
                sign.rowCount = 0;
                for (int row = 0; row < rows[i * PER_SIGN]; row++) {
                    int both = rows[i * PER_SIGN + 1 + row];
                    sign.addRow(both / DIRECTIONS, both % DIRECTIONS);
                }
            }
            latest = (latest + MOST_CHANGES - 1) % MOST_CHANGES;
            noted--;
        }
    }

    /** A text as steps that are worked out one behind the other. */
    private static final class Text {
        /** Steps from here on put a number or a name, those below are signs. */
        static final int LEAST_LEAF = -4;

        final int key;
        final int leaves;
        private final int[] steps;
        private final int[] values;

        Text(int newKey, int newLeaves, int[] newSteps) {
            key = newKey;
            leaves = newLeaves;
            steps = newSteps;
            values = new int[newLeaves];
        }

        /** What it gives, if its names stand for these four, in the order in which its key has them. */
        int value(int first, int second, int third, int fourth) {
            int top = 0;
            for (int i = 0; i < steps.length; i++) {
                int step = steps[i];
                if (step >= LEAST_LEAF && top < values.length) {
                    values[top] = step >= 0 ? step : step == -1 ? first : step == -2 ? second : step == -3 ? third : fourth;
                    top++;
                } else if (step == -'!' && top >= 1) {
                    values[top - 1] = bit(values[top - 1] == 0);
                } else if (top >= 2) {
                    top--;
                    values[top - 1] = joined(values[top - 1], -step, values[top]);
                }
            }
            return top >= 1 ? values[0] : 0;
        }

        private static int joined(int a, int sign, int b) {
            switch (sign) {
                case '|': return a != 0 || b != 0 ? 1 : 0;
                case '&': return a != 0 && b != 0 ? 1 : 0;
                case '<': return a < b ? 1 : 0;
                case '=': return a == b ? 1 : 0;
                case '>': return a > b ? 1 : 0;
                case '+': return a + b;
                case '-': return a - b;
                case '*': return a * b;
                default: return b == 0 ? 0 : a / b;
            }
        }
    }

    /** The tape, and how it is read. */
    private static final class Reader {
        private static final int END = -1, WORD = -2, NUMBER = -3, GLUED = -4;
        private static final int LOOSEST = 0, TESTS = 2, PIECES = 5;
        private static final int MOST_DIGITS = 4, MOST_OPEN = 8;

        private final byte[] tape = new byte[MOST_BYTES];
        int length = 0;
        /** The word or sign that is looked at: one of the above or a byte, from its first byte to behind its last. */
        private int token = END, start = 0, behind = 0;
        private int fault = LACKING;
        private int key = 0;
        private final int[] steps = new int[MOST_BYTES];
        private int stepCount = 0, leaves = 0, opened = 0, negated = 0;

        void append(int four) {
            for (int shift = 24; shift >= 0 && length < MOST_BYTES; shift -= 8) {
                tape[length] = (byte) (four >> shift);
                length++;
            }
        }

        /** Uses the tape up: the place of the fault, or LACKING. */
        int readTape() {
            token = END;
            behind = 0;
            fault = LACKING;
            stepCount = 0;
            leaves = 0;
            opened = 0;
            negated = 0;
            look();
            readKey();
            readLevel(LOOSEST);
            if (fault == LACKING && token != END) {
                fault = start;
            }
            length = 0;
            return fault;
        }

        Text makeText() {
            return new Text(key, leaves, Arrays.copyOf(steps, stepCount));
        }

        /** Goes on to the next word or sign. */
        private void look() {
            int wordEnd = token == WORD || token == NUMBER ? behind : LACKING;
            start = behind;
            while (start < length && tape[start] == ' ') {
                start++;
            }
            behind = start;
            if (start >= length) {
                token = END;
            } else if (isLetter(start) || isDigit(start)) {
                lookAtWord(wordEnd);
            } else {
                token = tape[start] & 255;
                behind = start + 1;
            }
        }

        private void lookAtWord(int wordEnd) {
            boolean letters = isLetter(start);
            while (behind < length && (letters ? isLetter(behind) : isDigit(behind))) {
                behind++;
            }
            token = start == wordEnd ? GLUED : letters ? WORD : NUMBER;
        }

        private boolean isLetter(int at) {
            return at < length && tape[at] >= 'a' && tape[at] <= 'z';
        }

        private boolean isDigit(int at) {
            return at < length && tape[at] >= '0' && tape[at] <= '9';
        }

        private void readKey() {
            key = isWord("light") ? LIGHT_KEY : isWord("gate") ? GATE_KEY : OBEY_KEY;
            if (key == OBEY_KEY && !isWord("obey")) {
                fault = start;
                return;
            }
            look();
        }

        private boolean isWord(String word) {
            if (token != WORD || behind - start != word.length()) {
                return false;
            }
            for (int i = 0; i < word.length(); i++) {
                if (tape[start + i] != word.charAt(i)) {
                    return false;
                }
            }
            return true;
        }

        /** Reads what is joined by the signs of a level, the loosest first; the open brackets keep it from going deep. */
        private void readLevel(int level) {
            if (level == PIECES) {
                readPiece();
                return;
            }
            readLevel(level + 1);
            int most = level == TESTS ? 1 : MOST_BYTES;
            for (int i = 0; i < most && fault == LACKING && isJoining(level); i++) {
                int sign = token;
                look();
                readLevel(level + 1);
                put(-sign);
            }
        }

        private boolean isJoining(int level) {
            switch (level) {
                case 0: return token == '|';
                case 1: return token == '&';
                case 2: return token == '<' || token == '=' || token == '>';
                case 3: return token == '+' || token == '-';
                default: return token == '*' || token == '/';
            }
        }

        private void readPiece() {
            if (fault != LACKING) {
                return;
            }
            if (token == NUMBER && behind - start <= MOST_DIGITS || token == WORD && nameRead() != LACKING) {
                put(token == NUMBER ? numberRead() : -1 - nameRead());
                leaves++;
                look();
            } else if (token == '!' && negated < MOST_OPEN) {
                negated++;
                look();
                readPiece();
                negated--;
                put(-'!');
            } else if (token == '(' && opened < MOST_OPEN) {
                opened++;
                look();
                readLevel(LOOSEST);
                readClosing();
                opened--;
            } else {
                fault = start;
            }
        }

        private void readClosing() {
            if (fault != LACKING) {
                return;
            }
            if (token == ')') {
                look();
            } else {
                fault = start;
            }
        }

        private int numberRead() {
            int number = 0;
            for (int i = start; i < behind; i++) {
                number = 10 * number + tape[i] - '0';
            }
            return number;
        }

        /** Which of the names of its key a word is. */
        private int nameRead() {
            if (behind - start != 1) {
                return LACKING;
            }
            String names = key == LIGHT_KEY ? "hdr" : key == GATE_KEY ? "hdm" : "kswh";
            return names.indexOf((char) tape[start]);
        }

        private void put(int step) {
            if (stepCount < MOST_BYTES) {
                steps[stepCount] = step;
                stepCount++;
            }
        }
    }

    /** A row of bytes or shorts, or missing. */
    private static final class Sheet {
        int sort = MISSING, size = 0;
        final short[] cells = new short[MOST_CELLS];

        void become(int newSort, int newSize) {
            sort = newSort;
            size = newSize;
            Arrays.fill(cells, (short) 0);
        }

        void becomeAs(Sheet model) {
            sort = model.sort;
            size = model.size;
            System.arraycopy(model.cells, 0, cells, 0, MOST_CELLS);
        }

        void put(int place, int v) {
            cells[place] = sort == BYTES ? (byte) v : (short) v;
        }

        boolean hasCells(int first, int many) {
            return first >= 0 && many >= 0 && first <= size && many <= size - first;
        }
    }

    private static final class Slot {
        int holds = HOLDS_NOTHING, kind = SIGN, rowCount = 0, number = 0;
        final Sheet sheet = new Sheet();
    }
}
