/** Boundaries of promises 1 to 8 and of terms 1: a new object, places, ways, goals, hours. */
final class EdgesOfPlaces {
    private static final int BAD = Edges.BAD, NO = Edges.NO, FULL = Edges.FULL, NONE = Edges.NONE, NOTHING = Edges.NOTHING;
    private final Edges e;

    EdgesOfPlaces(Edges edges) {
        e = edges;
    }

    void all() {
        newObject();
        newObjectHasNothing();
        places();
        waysAtMost();
        wayEnds();
        wayDirections();
        waySorts();
        wayRefusalsInOrder();
        directionsTaken();
        oppositeDirections();
        wayTold();
        passes();
        gateHours();
        gateTexts();
        shut();
        goalsAtMost();
        goalGroups();
        goalTold();
        namesOfGoalsAndGroups();
        hours();
        hoursWrap();
        lastDay();
    }

    private void newObject() {
        e.promise(1, "As told; no PLACES.");
        int[] counts = {0, 0, 0, 0, 0, 0, 0, 0, 0, 0, 8, 0, 1};
        for (int what = 0; what < counts.length; what++) {
            e.is(counts[what], "count", what);
        }
        e.is(0, "place");
        e.is(1, "count", 0);
    }

    private void newObjectHasNothing() {
        e.promise(1, "As told; no PLACES.");
        e.refused(BAD, "way", 0, 1, 0, 1);
        e.refused(BAD, "wayTold", 0, 0);
        e.refused(BAD, "shut", 0, true);
        e.refused(BAD, "goal", 0, -1);
        e.refused(BAD, "goalTold", 0, 0);
        e.refused(BAD, "sign", 0, 0, 0);
        e.refused(BAD, "told", 0, 0);
        e.refused(BAD, "as", 0, 0);
        e.refused(BAD, "turns", 0, 0);
        e.refused(BAD, "row", 0, 0, 0);
        e.refused(BAD, "rowTold", 0, 0, 0);
        e.refused(BAD, "drop", 0, 0);
        e.refused(BAD, "aim", 0, 0, 0);
        e.refused(NO, "undo");
        e.refused(-100, "text");
        e.refused(BAD, "textTold", 0, 0);
        for (int key = 0; key < 3; key++) {
            e.refused(NONE, "why", key);
        }
        e.refused(BAD, "walk", 0, 0, 0, 0);
        e.refused(BAD, "via", 0, 0, 0, 0);
        e.refused(BAD, "far", 0, 0, 0);
        e.refused(BAD, "next", 0, 0, 0);
        e.reads(0, "breaches", 0);
        e.refused(NONE, "breach", 0, 0);
        e.refused(BAD, "needs", 0, 0);
        e.reads(0, "wrong", 0);
        e.refused(BAD, "choose", 0);
        e.refused(0, "clear");
        e.refused(BAD, "fewest", 0, 0);
        e.refused(NO, "strangers", 1);
        e.refused(NONE, "led");
        for (int sheet = 0; sheet < 4; sheet++) {
            e.refused(NOTHING, "mark", sheet, 0, 1);
            e.refused(NOTHING, "lay", 0, 2, sheet);
        }
        e.refused(BAD, "fill", 0, 0);
        e.refused(NOTHING, "copy", 0, 0, 1, 0, 0);
        for (int slot = 0; slot < 5; slot++) {
            e.refused(NOTHING, "ask", slot, 0);
            e.refused(NOTHING, "item", slot, 0);
            e.refused(NOTHING, "rest", slot, 1);
            e.refused(0, "lay", slot, 0, 0);
        }
        e.refused(NO, "check", 1);
        e.refused(NO, "back");
    }

    private void places() {
        e.promise(2, "One more PLACE: its number. FULL.");
        twelvePlaces();
        e.terms(1, "PLACES, 12 at most, numbered from 0.");
        twelvePlaces();
        e.is(0, "goal", 11, -1);
        e.refused(BAD, "goal", 12, -1);
    }

    private void twelvePlaces() {
        for (int i = 0; i < 12; i++) {
            e.is(i, "place");
            e.is(i + 1, "count", 0);
        }
        e.refused(FULL, "place");
        e.is(12, "count", 0);
        e.refused(FULL, "place");
    }

    private void waysAtMost() {
        e.terms(1, "WAYS, 20 at most, numbered from 0");
        e.places(12);
        for (int i = 0; i < 20; i++) {
            e.is(i, "way", i % 10, i % 10 + 1, i / 10, 1 + i);
        }
        e.refused(FULL, "way", 0, 11, 7, 1);
        e.is(20, "count", 1);
        e.is(20, "wayTold", 19, 4);
        e.refused(BAD, "wayTold", 20, 4);
    }

    private void wayEnds() {
        e.terms(1, "between two unlike PLACES");
        e.places(3);
        for (int i = 0; i < 3; i++) {
            e.refused(BAD, "way", i, i, 0, 1);
        }
        e.is(0, "way", 0, 1, 0, 1);
        e.promise(3, "BAD; FULL; NO");
        e.places(3);
        int[] odd = {-1, 3, Integer.MIN_VALUE, Integer.MAX_VALUE};
        for (int place : odd) {
            e.refused(BAD, "way", place, 1, 0, 1);
            e.refused(BAD, "way", 1, place, 0, 1);
        }
        e.is(0, "way", 0, 2, 0, 1);
        e.is(1, "way", 2, 0, 1, 1);
        e.call("place");
        e.is(2, "way", 3, 0, 2, 1);
    }

    private void wayDirections() {
        e.terms(1, "each leads from its one PLACE in a DIRECTION 0 .. 7");
        e.places(2);
        e.refused(BAD, "way", 0, 1, -1, 1);
        e.refused(BAD, "way", 0, 1, 8, 1);
        e.refused(BAD, "way", 0, 1, Integer.MIN_VALUE, 1);
        e.refused(BAD, "way", 0, 1, Integer.MAX_VALUE, 1);
        for (int direction = 0; direction < 8; direction++) {
            e.is(direction, "way", 0, 1, direction, 1);
            e.is(direction, "wayTold", direction, 2);
        }
    }

    private void waySorts() {
        e.terms(1, "of a SORT (0 plain, 1 stairs, 2 lift, 3 gate), of MINUTES 1 .. 30");
        sortsOfWays();
        e.promise(3, "(sort: 100 times SORT, and MINUTES)");
        sortsOfWays();
    }

    private void sortsOfWays() {
        e.places(2);
        int[] odd = {-1, -30, -70, -99, -100, -101, 0, 31, 99, 400, 401, 430, 501, Integer.MIN_VALUE, Integer.MAX_VALUE};
        for (int sort : odd) {
            e.refused(BAD, "way", 0, 1, 0, sort);
        }
        for (int sort = 0; sort < 4; sort++) {
            e.refused(BAD, "way", 0, 1, 0, 100 * sort);
            e.refused(BAD, "way", 0, 1, 0, 100 * sort + 31);
            e.refused(BAD, "way", 0, 1, 0, 100 * sort + 99);
            for (int more = 0; more < 2; more++) {
                int way = 2 * sort + more;
                e.is(way, "way", 0, 1, way, 100 * sort + 1 + 29 * more);
                e.is(sort, "wayTold", way, 3);
                e.is(1 + 29 * more, "wayTold", way, 4);
            }
        }
    }

    private void wayRefusalsInOrder() {
        e.promise(3, "BAD; FULL; NO: some WAY leads in that DIRECTION already, at one end.");
        e.places(12);
        e.call("way", 0, 1, 0, 1);
        e.refused(NO, "way", 0, 1, 0, 1);
        e.refused(BAD, "way", 0, 1, 0, 31);
        e.refused(BAD, "way", 0, 0, 0, 1);
        for (int i = 1; i < 20; i++) {
            e.is(i, "way", i % 10, i % 10 + 1, i / 10, 1);
        }
        e.refused(FULL, "way", 0, 1, 0, 1);
        e.refused(FULL, "way", 0, 1, 2, 1);
        e.refused(BAD, "way", 0, 12, 2, 1);
        e.refused(BAD, "way", 0, 1, 8, 1);
        e.refused(BAD, "way", 0, 1, 2, 0);
        e.refused(BAD, "way", 1, 1, 2, 1);
    }

    private void directionsTaken() {
        e.terms(1, "At a PLACE no two WAYS lead in one DIRECTION.");
        e.places(4);
        e.is(0, "way", 0, 1, 6, 1);
        e.refused(NO, "way", 0, 2, 6, 1);
        e.refused(NO, "way", 2, 1, 6, 1);
        e.refused(NO, "way", 2, 0, 2, 1);
        e.refused(NO, "way", 1, 2, 2, 1);
        e.refused(NO, "way", 0, 1, 6, 1);
        e.refused(NO, "way", 1, 0, 2, 1);
        e.is(1, "way", 2, 0, 6, 1);
        e.is(2, "way", 1, 2, 6, 1);
        e.is(3, "way", 0, 1, 5, 1);
        e.call("shut", 3, true);
        e.refused(NO, "way", 0, 3, 5, 1);
    }

    private void oppositeDirections() {
        e.terms(1, "from its other one in that and 4 (the rest by 8)");
        int[] opposite = {4, 5, 6, 7, 0, 1, 2, 3};
        for (int direction = 0; direction < 8; direction++) {
            e.fresh();
            e.places(3);
            e.is(0, "way", 0, 1, direction, 1);
            e.is(0, "goal", 0, -1);
            e.is(opposite[direction], "next", 1, 0, 0);
            e.refused(NO, "way", 1, 2, opposite[direction], 1);
            e.is(1, "way", 1, 2, (opposite[direction] + 1) % 8, 1);
            e.is(2, "way", 1, 2, (opposite[direction] + 7) % 8, 1);
        }
    }

    private void wayTold() {
        e.promise(4, "what 0 its one PLACE, 1 the other, 2 DIRECTION, 3 SORT, 4 MINUTES, 5 whether SHUT (1, 0), 6, 7 whether it PASSES for WHEELS 0, 1. BAD.");
        e.furnished();
        int[] gate = {1, 2, 1, 3, 5, 0, 1, 1};
        int[] stairs = {3, 4, 1, 1, 6, 0, 1, 0};
        for (int what = 0; what < 8; what++) {
            e.reads(gate[what], "wayTold", 4, what);
            e.reads(stairs[what], "wayTold", 5, what);
        }
        e.refused(BAD, "wayTold", 0, -1);
        e.refused(BAD, "wayTold", 0, 8);
        e.refused(BAD, "wayTold", -1, 0);
        e.refused(BAD, "wayTold", 6, 0);
        e.refused(BAD, "wayTold", Integer.MIN_VALUE, 0);
        e.refused(BAD, "wayTold", Integer.MAX_VALUE, Integer.MAX_VALUE);
    }

    private void passes() {
        e.terms(1, "A WAY PASSES (for WHEELS 0 or 1), if it is not SHUT, is not stairs with WHEELS 1");
        e.places(2);
        int[] withWheels = {1, 0, 1, 1};
        for (int sort = 0; sort < 4; sort++) {
            e.call("way", 0, 1, sort, 100 * sort + 1);
            e.is(1, "wayTold", sort, 6);
            e.is(withWheels[sort], "wayTold", sort, 7);
            e.call("shut", sort, true);
            e.is(0, "wayTold", sort, 6);
            e.is(0, "wayTold", sort, 7);
            e.call("shut", sort, false);
            e.is(1, "wayTold", sort, 6);
            e.is(withWheels[sort], "wayTold", sort, 7);
        }
    }

    private void gateHours() {
        e.terms(1, "(without a TEXT: HOUR 6 .. 21)");
        e.places(2);
        e.call("way", 0, 1, 0, 301);
        e.call("way", 0, 1, 1, 201);
        for (int i = 0; i < 24; i++) {
            int hour = e.call("hours", 1);
            int open = hour >= 6 && hour <= 21 ? 1 : 0;
            e.is(open, "wayTold", 0, 6);
            e.is(open, "wayTold", 0, 7);
            e.is(1, "wayTold", 1, 6);
        }
        e.is(8, "count", 10);
    }

    private void gateTexts() {
        e.terms(1, "and, a gate, is open: what gate gives for it is not 0");
        e.places(2);
        e.call("way", 0, 1, 0, 301);
        e.call("way", 0, 1, 1, 1);
        String[] texts = {"gate 0", "gate 1", "gate 2", "gate 0-1", "gate 1-1", "gate h=8&d=0&m=1"};
        int[] open = {0, 1, 1, 1, 0, 1};
        for (int i = 0; i < texts.length; i++) {
            e.text(i, texts[i]);
            e.is(open[i], "wayTold", 0, 6);
            e.is(open[i], "wayTold", 0, 7);
            e.is(1, "wayTold", 1, 6);
        }
        e.call("shut", 0, true);
        e.is(0, "wayTold", 0, 6);
        e.call("shut", 0, false);
        e.call("hours", 15);
        e.text(6, "gate 1");
        e.is(1, "wayTold", 0, 6);
    }

    private void shut() {
        e.promise(5, "A WAY is SHUT, or no more: 1 if that is new, else 0. BAD.");
        e.furnished();
        e.is(0, "shut", 0, false);
        e.is(1, "shut", 0, true);
        e.is(1, "wayTold", 0, 5);
        e.is(0, "wayTold", 1, 5);
        e.is(0, "shut", 0, true);
        e.is(1, "shut", 0, false);
        e.is(0, "wayTold", 0, 5);
        e.is(0, "shut", 0, false);
        e.is(1, "shut", 5, true);
        for (int way : new int[] {-1, 6, Integer.MIN_VALUE, Integer.MAX_VALUE}) {
            e.refused(BAD, "shut", way, true);
            e.refused(BAD, "shut", way, false);
        }
        e.terms(1, "SHUT or not (not, at first)");
        e.corridor(2);
        e.is(0, "wayTold", 0, 5);
        e.is(0, "shut", 0, false);
    }

    private void goalsAtMost() {
        e.promise(6, "its number. BAD; FULL.");
        e.places(2);
        for (int i = 0; i < 10; i++) {
            e.is(i, "goal", i % 2, i % 5 - 1);
        }
        e.refused(FULL, "goal", 0, 0);
        e.is(10, "count", 2);
        e.refused(BAD, "goal", 2, 0);
        e.refused(BAD, "goal", 0, 4);
        e.terms(1, "GOALS, 10 at most, numbered from 0, each at a PLACE");
        e.places(2);
        for (int place : new int[] {-1, 2, Integer.MIN_VALUE, Integer.MAX_VALUE}) {
            e.refused(BAD, "goal", place, 0);
        }
        for (int i = 0; i < 10; i++) {
            e.is(i, "goal", 1, -1);
        }
        e.refused(FULL, "goal", 1, -1);
        e.is(1, "goalTold", 9, 0);
        e.refused(BAD, "goalTold", 10, 0);
    }

    private void goalGroups() {
        e.terms(1, "in a GROUP 0 .. 3 or in none.");
        groups();
        e.promise(6, "(group -1: in none)");
        groups();
    }

    private void groups() {
        e.places(1);
        e.refused(BAD, "goal", 0, -2);
        e.refused(BAD, "goal", 0, 4);
        e.refused(BAD, "goal", 0, Integer.MIN_VALUE);
        e.refused(BAD, "goal", 0, Integer.MAX_VALUE);
        for (int group = -1; group < 4; group++) {
            e.is(group + 1, "goal", 0, group);
            e.is(group == -1 ? NONE : group, "goalTold", group + 1, 1);
        }
    }

    private void goalTold() {
        e.promise(7, "what 0 its PLACE, 1 its GROUP (NONE). BAD.");
        e.furnished();
        e.reads(2, "goalTold", 1, 0);
        e.reads(0, "goalTold", 1, 1);
        e.reads(3, "goalTold", 2, 0);
        e.refused(NONE, "goalTold", 2, 1);
        e.refused(BAD, "goalTold", 2, -1);
        e.refused(BAD, "goalTold", 2, 2);
        e.refused(BAD, "goalTold", 3, 0);
        e.refused(BAD, "goalTold", -1, 0);
        e.refused(BAD, "goalTold", Integer.MAX_VALUE, 0);
        e.refused(BAD, "goalTold", Integer.MIN_VALUE, 1);
    }

    private void namesOfGoalsAndGroups() {
        e.terms(1, "NAMES 0 .. 9 are those of GOALS (there or not), 10 .. 13 those of GROUPS 0 .. 3.");
        e.places(1);
        for (int name = 0; name < 14; name++) {
            int sign = name / 6;
            if (name % 6 == 0) {
                e.is(sign, "sign", 0, 4, 0);
            }
            e.is(name % 6 + 1, "row", sign, name, 0);
            e.is(name, "rowTold", sign, name % 6, 0);
        }
        e.refused(BAD, "row", 2, 14, 0);
        e.refused(BAD, "row", 2, -1, 0);
        e.fresh();
        e.star();
        e.call("goal", 1, 0);
        e.call("goal", 2, 3);
        e.call("sign", 0, 0, 0);
        e.is(1, "row", 0, 10, 0);
        e.is(2, "row", 0, 13, 2);
        e.is(1, "walk", 0, 0, 0, 0);
        e.is(1, "walk", 0, 1, 0, 0);
        e.call("drop", 0, 0);
        e.is(2, "walk", 0, 0, 0, 0);
        e.is(1, "walk", 0, 1, 0, 0);
    }

    private void hours() {
        e.promise(8, "n (1 .. 48) hours go by");
        e.furnished();
        for (int n : new int[] {0, -1, 49, Integer.MIN_VALUE, Integer.MAX_VALUE}) {
            e.refused(BAD, "hours", n);
        }
        e.is(9, "hours", 1);
        e.is(0, "count", 11);
        e.is(9, "hours", 48);
        e.is(2, "count", 11);
        e.is(8, "hours", 47);
        e.is(4, "count", 11);
    }

    private void hoursWrap() {
        e.promise(8, "(behind 23 comes 0 of the next DAY)");
        e.is(23, "hours", 15);
        e.is(0, "count", 11);
        e.is(0, "hours", 1);
        e.is(1, "count", 11);
        e.is(23, "hours", 23);
        e.is(1, "count", 11);
        e.is(23, "hours", 48);
        e.is(3, "count", 11);
        e.is(0, "hours", 25);
        e.is(5, "count", 11);
        e.terms(1, "HOUR 0 .. 23 (8 at first), DAY 0 .. 999 (0 at first).");
        e.is(8, "count", 10);
        e.is(0, "count", 11);
        for (int i = 1; i <= 48; i++) {
            e.is((8 + i) % 24, "hours", 1);
            e.is((8 + i) / 24, "count", 11);
        }
    }

    /** Some 500 calls come to the last day. */
    private void lastDay() {
        e.promise(8, "BAD; FULL: DAY would be above 999.");
        for (int i = 0; i < 499; i++) {
            e.call("hours", 48);
        }
        e.is(998, "count", 11);
        e.refused(FULL, "hours", 40);
        e.refused(BAD, "hours", 49);
        e.is(23, "hours", 39);
        e.is(999, "count", 11);
        e.refused(FULL, "hours", 1);
        e.refused(FULL, "hours", 48);
        e.refused(BAD, "hours", 0);
        e.is(23, "count", 10);
        e.is(999, "count", 11);
    }
}
