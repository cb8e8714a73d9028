/** Boundaries of promises 23 to 26 and of the walks of terms 4: who arrives, is lost or sent round, the least minutes. */
final class EdgesOfWalks {
    private static final int BAD = Edges.BAD, NONE = Edges.NONE;
    private static final int ARRIVED = 1, LOST = 2, SENT_ROUND = 3;
    private static final int SIGN = 0, OVER = 1, DOOR = 2, LIGHT = 3, MAP = 4, HAND = 5;
    private final Edges e;

    EdgesOfWalks(Edges edges) {
        e = edges;
    }

    void all() {
        walkRefused();
        walkTold();
        via();
        arrive();
        readFirst();
        seenAlike();
        unlit();
        nameAheadOfGroup();
        firstRow();
        lostBySign();
        straightOn();
        justOneWay();
        justOneWayAtFirst();
        minutes();
        sentRound();
        otherDirections();
        longestWalk();
        farRefused();
        far();
        longestFar();
        next();
        nextOfSeveral();
    }

    /** All five that are told of a walk without wheels. */
    private void walked(int place, int goal, int... told) {
        for (int what = 0; what < told.length; what++) {
            e.is(told[what], "walk", place, goal, 0, what);
        }
    }

    private void row(int place, int kind, int name, int arrow) {
        int sign = e.call("sign", place, kind, 1);
        e.call("row", sign, name, arrow);
    }

    private void walkRefused() {
        e.promise(23, "BAD: place, goal, wheels, what.");
        e.furnished();
        for (int odd : new int[] {-1, 5, Integer.MIN_VALUE, Integer.MAX_VALUE}) {
            e.refused(BAD, "walk", odd, 0, 0, 0);
            e.refused(BAD, "walk", 0, 0, 0, odd);
        }
        for (int odd : new int[] {-1, 3, Integer.MIN_VALUE, Integer.MAX_VALUE}) {
            e.refused(BAD, "walk", 0, odd, 0, 0);
        }
        for (int odd : new int[] {-1, 2, Integer.MIN_VALUE, Integer.MAX_VALUE}) {
            e.refused(BAD, "walk", 0, 0, odd, 0);
        }
        int[] without = {LOST, 0, 4, 0, NONE};
        int[] with = {ARRIVED, 7, 3, 2, 0};
        for (int what = 0; what < 5; what++) {
            e.reads(without[what], "walk", 4, 2, 0, what);
            e.reads(with[what], "walk", 4, 2, 1, what);
        }
    }

    private void walkTold() {
        e.promise(23, "what 0 what becomes of it (1 .. 3), 1 MINUTES, 2 the PLACE where it ends, 3 how many WAYS it goes, 4 the SIGN that was FOLLOWED last (NONE).");
        e.places(5);
        e.call("way", 0, 1, 0, 30);
        e.call("way", 1, 2, 0, 20);
        e.call("goal", 2, -1);
        walked(2, 0, ARRIVED, 0, 2, 0, NONE);
        walked(0, 0, ARRIVED, 50, 2, 2, NONE);
        walked(3, 0, LOST, 0, 3, 0, NONE);
        row(1, SIGN, 0, 3);
        walked(0, 0, LOST, 30, 1, 1, 0);
        row(0, SIGN, 0, 0);
        walked(0, 0, LOST, 30, 1, 1, 0);
        e.call("aim", 0, 0, 0);
        walked(0, 0, ARRIVED, 50, 2, 2, 0);
        e.call("aim", 0, 0, 4);
        walked(0, 0, SENT_ROUND, 90, 1, 3, 1);
        walked(1, 0, SENT_ROUND, 90, 0, 3, 0);
        walked(2, 0, ARRIVED, 0, 2, 0, NONE);
    }

    private void via() {
        e.promise(24, "The i-th PLACE of a WALK (from 0 on; the first is where it begins). BAD: place, goal, wheels, i below 0; NONE.");
        e.furnished();
        int[] via = {4, 0, 3};
        for (int i = 0; i < via.length; i++) {
            e.reads(via[i], "via", 4, 2, 1, i);
        }
        e.refused(NONE, "via", 4, 2, 1, 3);
        e.refused(NONE, "via", 4, 2, 1, Integer.MAX_VALUE);
        e.refused(BAD, "via", 4, 2, 1, -1);
        e.refused(BAD, "via", 4, 2, 1, Integer.MIN_VALUE);
        e.reads(4, "via", 4, 2, 0, 0);
        e.refused(NONE, "via", 4, 2, 0, 1);
        e.reads(3, "via", 3, 2, 0, 0);
        e.refused(NONE, "via", 3, 2, 0, 1);
        for (int odd : new int[] {-1, 5, Integer.MIN_VALUE, Integer.MAX_VALUE}) {
            e.refused(BAD, "via", odd, 0, 0, 0);
        }
        for (int odd : new int[] {-1, 3, Integer.MIN_VALUE, Integer.MAX_VALUE}) {
            e.refused(BAD, "via", 0, odd, 0, 0);
        }
        for (int odd : new int[] {-1, 2, Integer.MIN_VALUE, Integer.MAX_VALUE}) {
            e.refused(BAD, "via", 0, 0, odd, 0);
            e.refused(BAD, "via", 0, 0, odd, Integer.MAX_VALUE);
        }
    }

    private void arrive() {
        e.terms(4, "At a PLACE: if the GOAL is there, they ARRIVE (1).");
        e.corridor(3);
        e.call("goal", 1, 0);
        e.call("goal", 2, 0);
        row(1, HAND, 0, 0);
        row(1, HAND, 10, 0);
        walked(1, 0, ARRIVED, 0, 1, 0, NONE);
        walked(0, 0, ARRIVED, 1, 1, 1, NONE);
        walked(0, 1, ARRIVED, 2, 2, 2, 1);
    }

    private void readFirst() {
        e.terms(4, "of the SIGNS there that are LIT and OBEYED that is read first that has the greatest SEEN");
        int[][] pairs = {{DOOR, SIGN}, {MAP, SIGN}, {SIGN, OVER}, {SIGN, LIGHT}, {SIGN, HAND}, {OVER, HAND}, {LIGHT, HAND}, {DOOR, OVER}, {MAP, HAND}};
        for (int[] pair : pairs) {
            for (int turned = 0; turned < 2; turned++) {
                e.fresh();
                e.star();
                e.call("goal", 4, -1);
                e.call("hours", 11);
                row(0, pair[turned], 0, 6);
                row(0, pair[1 - turned], 0, 6);
                e.is(1 - turned, "walk", 0, 0, 0, 4);
            }
        }
    }

    private void seenAlike() {
        e.terms(4, "that is read first that has the greatest SEEN, of several the least number");
        int[][] pairs = {{SIGN, SIGN}, {OVER, LIGHT}, {LIGHT, OVER}, {DOOR, MAP}, {MAP, DOOR}, {HAND, HAND}};
        for (int[] pair : pairs) {
            e.fresh();
            e.star();
            e.call("goal", 4, -1);
            e.call("hours", 11);
            row(1, pair[0], 0, 4);
            row(0, pair[0], 0, 2);
            row(0, pair[1], 0, 6);
            walked(0, 0, LOST, 2, 2, 1, 1);
            e.call("drop", 1, 0);
            walked(0, 0, ARRIVED, 4, 4, 1, 2);
        }
    }

    private void unlit() {
        e.terms(4, "of the SIGNS there that are LIT and OBEYED");
        e.star();
        e.call("goal", 4, -1);
        row(0, DOOR, 0, 6);
        row(0, LIGHT, 0, 2);
        row(0, HAND, 0, 4);
        e.is(2, "walk", 0, 0, 0, 4);
        e.call("hours", 15);
        e.is(2, "walk", 0, 0, 0, 4);
        e.call("hours", 1);
        e.is(1, "walk", 0, 0, 0, 4);
        e.call("hours", 6);
        e.is(0, "walk", 0, 0, 0, 4);
        e.text(0, "obey s>1");
        e.is(NONE, "walk", 0, 0, 0, 4);
        e.text(1, "light 1");
        e.is(1, "walk", 0, 0, 0, 4);
        e.text(2, "obey s=1");
        e.is(0, "walk", 0, 0, 0, 4);
    }

    private void nameAheadOfGroup() {
        e.terms(4, "the first of these (in that order) with a ROW of the GOAL's NAME, else the first with a ROW of its GROUP, is FOLLOWED");
        e.star();
        e.call("goal", 1, 2);
        e.call("goal", 2, -1);
        e.call("goal", 3, 1);
        row(0, HAND, 12, 0);
        walked(0, 0, ARRIVED, 1, 1, 1, 0);
        walked(0, 1, LOST, 0, 0, 0, NONE);
        walked(0, 2, LOST, 0, 0, 0, NONE);
        row(0, DOOR, 0, 6);
        walked(0, 0, LOST, 4, 4, 1, 1);
        e.call("drop", 1, 0);
        e.call("row", 1, 12, 6);
        walked(0, 0, ARRIVED, 1, 1, 1, 0);
        e.call("drop", 0, 0);
        walked(0, 0, LOST, 4, 4, 1, 1);
        row(0, SIGN, 11, 4);
        walked(0, 2, ARRIVED, 3, 3, 1, 2);
        for (int name : new int[] {0, 2, 3, 9, 10, 13}) {
            e.call("drop", 2, 0);
            e.call("row", 2, name, 2);
            walked(0, 1, LOST, 0, 0, 0, NONE);
        }
    }

    private void firstRow() {
        e.terms(4, "the first such ROW tells a DIRECTION");
        e.star();
        e.call("goal", 1, 0);
        row(0, SIGN, 10, 6);
        e.call("row", 0, 10, 0);
        walked(0, 0, LOST, 4, 4, 1, 0);
        e.call("row", 0, 0, 4);
        walked(0, 0, LOST, 3, 3, 1, 0);
        e.call("row", 0, 0, 0);
        walked(0, 0, LOST, 3, 3, 1, 0);
        e.call("drop", 0, 2);
        walked(0, 0, ARRIVED, 1, 1, 1, 0);
    }

    private void lostBySign() {
        e.terms(4, "if no WAY that PASSES leads in it from there, they are LOST (2).");
        e.places(3);
        e.call("way", 0, 1, 0, 101);
        e.call("way", 0, 2, 2, 301);
        e.call("goal", 1, -1);
        e.call("goal", 2, -1);
        row(0, SIGN, 0, 0);
        e.call("row", 0, 1, 2);
        e.is(ARRIVED, "walk", 0, 0, 0, 0);
        e.is(LOST, "walk", 0, 0, 1, 0);
        e.is(0, "walk", 0, 0, 1, 4);
        e.is(ARRIVED, "walk", 0, 1, 1, 0);
        e.call("shut", 0, true);
        walked(0, 0, LOST, 0, 0, 0, 0);
        e.call("hours", 14);
        walked(0, 1, LOST, 0, 0, 0, 0);
        e.call("shut", 0, false);
        e.call("aim", 0, 0, 7);
        walked(0, 0, LOST, 0, 0, 0, 0);
    }

    private void straightOn() {
        e.terms(4, "Without such a SIGN they go on in the DIRECTION in which they came, if a WAY that PASSES leads in it");
        e.corridor(3);
        e.call("place");
        e.call("way", 1, 3, 2, 101);
        e.call("goal", 2, -1);
        e.call("goal", 3, -1);
        walked(0, 0, ARRIVED, 2, 2, 2, NONE);
        walked(0, 1, LOST, 2, 2, 2, NONE);
        e.call("shut", 1, true);
        walked(0, 1, ARRIVED, 2, 3, 2, NONE);
        walked(0, 0, LOST, 2, 3, 2, NONE);
        e.is(LOST, "walk", 0, 1, 1, 0);
        e.is(1, "walk", 0, 1, 1, 2);
    }

    private void justOneWay() {
        e.terms(4, "else, if just one WAY that PASSES leads from there, but that by which they came, by that one; else they are LOST.");
        e.places(4);
        e.call("way", 0, 1, 0, 1);
        e.call("goal", 2, -1);
        walked(0, 0, LOST, 1, 1, 1, NONE);
        e.call("way", 1, 2, 1, 101);
        walked(0, 0, ARRIVED, 2, 2, 2, NONE);
        e.is(LOST, "walk", 0, 0, 1, 0);
        e.call("way", 1, 3, 3, 1);
        walked(0, 0, LOST, 1, 1, 1, NONE);
        e.is(LOST, "walk", 0, 0, 1, 0);
        e.is(3, "walk", 0, 0, 1, 2);
        e.call("shut", 2, true);
        walked(0, 0, ARRIVED, 2, 2, 2, NONE);
        e.call("shut", 1, true);
        walked(0, 0, LOST, 1, 1, 1, NONE);
    }

    private void justOneWayAtFirst() {
        e.terms(4, "who comes to each PLACE in a DIRECTION (in none, at first)");
        e.places(3);
        e.call("goal", 1, -1);
        walked(0, 0, LOST, 0, 0, 0, NONE);
        e.call("way", 0, 1, 0, 1);
        walked(0, 0, ARRIVED, 1, 1, 1, NONE);
        e.call("way", 0, 2, 4, 1);
        walked(0, 0, LOST, 0, 0, 0, NONE);
        e.call("shut", 1, true);
        walked(0, 0, ARRIVED, 1, 1, 1, NONE);
        e.call("shut", 0, true);
        walked(0, 0, LOST, 0, 0, 0, NONE);
    }

    private void minutes() {
        e.terms(4, "They go by that WAY, which takes its MINUTES.");
        e.places(3);
        e.call("way", 0, 1, 0, 1);
        e.call("way", 2, 1, 4, 230);
        e.call("goal", 2, -1);
        e.call("goal", 0, -1);
        walked(0, 0, ARRIVED, 31, 2, 2, NONE);
        walked(2, 1, ARRIVED, 31, 0, 2, NONE);
        walked(2, 0, ARRIVED, 0, 2, 0, NONE);
        row(1, SIGN, 0, 7);
        walked(0, 0, LOST, 1, 1, 1, 0);
    }

    /** Who begins at a place has not come to it. */
    private void sentRound() {
        e.terms(4, "SENT ROUND (3): they come to a PLACE in a DIRECTION in which they came there already.");
        e.places(4);
        e.call("way", 0, 1, 0, 1);
        e.call("way", 1, 2, 2, 2);
        e.call("way", 2, 0, 5, 4);
        e.call("goal", 3, -1);
        walked(0, 0, LOST, 0, 0, 0, NONE);
        row(0, SIGN, 0, 0);
        walked(0, 0, SENT_ROUND, 8, 1, 4, 0);
        walked(1, 0, LOST, 0, 1, 0, NONE);
        row(1, SIGN, 0, 2);
        walked(1, 0, SENT_ROUND, 9, 2, 4, 1);
        int[] via = {1, 2, 0, 1, 2};
        for (int i = 0; i < via.length; i++) {
            e.is(via[i], "via", 1, 0, 0, i);
        }
        e.is(NONE, "via", 1, 0, 0, 5);
    }

    private void otherDirections() {
        e.terms(4, "they come to a PLACE in a DIRECTION in which they came there already.");
        e.corridor(3);
        e.places(2);
        e.call("way", 2, 3, 2, 1);
        e.call("way", 3, 1, 5, 1);
        e.call("way", 1, 4, 5, 1);
        e.call("goal", 4, -1);
        walked(0, 0, ARRIVED, 5, 4, 5, NONE);
        int[] via = {0, 1, 2, 3, 1, 4};
        for (int i = 0; i < via.length; i++) {
            e.is(via[i], "via", 0, 0, 0, i);
        }
        e.is(NONE, "via", 0, 0, 0, 6);
    }

    /** All twenty ways, there and back, and one more: no walk has more than 41 ways. */
    private void longestWalk() {
        e.terms(4, "SENT ROUND (3)");
        e.places(12);
        int[] path = {0, 4, 5, 6, 7, 8, 9, 10, 2, 4, 5, 6, 7, 8, 9, 10, 3, 4, 5, 6, 1};
        for (int i = 0; i < 20; i++) {
            e.is(i, "way", path[i], path[i + 1], i < 8 ? 0 : i < 16 ? 1 : 2, 30);
        }
        e.call("goal", 11, -1);
        row(0, SIGN, 0, 0);
        row(1, SIGN, 0, 6);
        walked(0, 0, SENT_ROUND, 41 * 30, 4, 41, 0);
        for (int i = 0; i <= 20; i++) {
            e.is(path[i], "via", 0, 0, 0, i);
            e.is(path[20 - i], "via", 0, 0, 0, 20 + i);
        }
        e.is(4, "via", 0, 0, 0, 41);
        e.is(NONE, "via", 0, 0, 0, 42);
        walked(1, 0, SENT_ROUND, 41 * 30, 6, 41, 1);
    }

    private void farRefused() {
        e.promise(25, "FAR. BAD; NONE.");
        refusedTrips("far");
        e.promise(26, "NEXT. BAD; NONE.");
        refusedTrips("next");
    }

    private void refusedTrips(String name) {
        e.furnished();
        for (int odd : new int[] {-1, 5, Integer.MIN_VALUE, Integer.MAX_VALUE}) {
            e.refused(BAD, name, odd, 0, 0);
        }
        for (int odd : new int[] {-1, 3, Integer.MIN_VALUE, Integer.MAX_VALUE}) {
            e.refused(BAD, name, 0, odd, 0);
        }
        for (int odd : new int[] {-1, 2, Integer.MIN_VALUE, Integer.MAX_VALUE}) {
            e.refused(BAD, name, 0, 0, odd);
        }
        boolean far = name.equals("far");
        e.reads(far ? 6 : 5, name, 4, 2, 0);
        e.reads(far ? 7 : 2, name, 4, 2, 1);
        e.reads(far ? 0 : NONE, name, 3, 2, 0);
        e.call("shut", 2, true);
        e.call("shut", 5, true);
        e.refused(NONE, name, 4, 2, 0);
        e.reads(far ? 0 : NONE, name, 3, 2, 0);
    }

    private void far() {
        e.terms(4, "FAR: the least MINUTES from a PLACE to a GOAL by WAYS that PASS (0: it is there).");
        e.places(4);
        e.call("goal", 2, -1);
        e.is(0, "far", 2, 0, 0);
        e.is(NONE, "far", 0, 0, 0);
        e.call("way", 0, 2, 0, 130);
        e.is(30, "far", 0, 0, 0);
        e.is(NONE, "far", 0, 0, 1);
        e.call("way", 0, 1, 1, 15);
        e.call("way", 1, 2, 1, 16);
        e.is(30, "far", 0, 0, 0);
        e.is(31, "far", 0, 0, 1);
        e.call("way", 2, 1, 7, 14);
        e.is(29, "far", 0, 0, 0);
        e.call("shut", 3, true);
        e.is(30, "far", 0, 0, 0);
        e.call("shut", 0, true);
        e.is(31, "far", 0, 0, 0);
        e.call("shut", 2, true);
        e.is(NONE, "far", 0, 0, 0);
        e.is(NONE, "far", 3, 0, 0);
    }

    /** Eleven ways in a row, told from either end, and from their one place or their other one. */
    private void longestFar() {
        e.terms(4, "FAR: the least MINUTES from a PLACE to a GOAL");
        for (int told = 0; told < 4; told++) {
            e.fresh();
            e.places(12);
            for (int i = 1; i < 12; i++) {
                int end = told % 2 == 0 ? i : 12 - i;
                e.call("way", told < 2 ? end : end - 1, told < 2 ? end - 1 : end, end % 2, 30);
            }
            e.call("goal", 11, -1);
            e.call("goal", 0, -1);
            for (int place = 0; place < 12; place++) {
                e.is(30 * (11 - place), "far", place, 0, 0);
                e.is(30 * place, "far", place, 1, 1);
            }
        }
    }

    private void next() {
        e.terms(4, "(none: it is there, or can't be come to)");
        e.corridor(3);
        e.call("place");
        e.call("goal", 1, -1);
        e.call("goal", 1, 2);
        e.is(NONE, "next", 1, 0, 0);
        e.is(NONE, "next", 1, 1, 0);
        e.is(0, "next", 0, 0, 0);
        e.is(4, "next", 2, 1, 0);
        e.is(NONE, "next", 3, 0, 0);
        e.call("shut", 0, true);
        e.is(NONE, "next", 0, 0, 0);
        e.is(4, "next", 2, 0, 0);
    }

    private void nextOfSeveral() {
        e.terms(4, "NEXT: the DIRECTION of the first WAY of those ways that are as long; of several the least DIRECTION");
        e.places(4);
        e.call("way", 0, 1, 7, 5);
        e.call("goal", 1, -1);
        e.is(7, "next", 0, 0, 0);
        e.call("way", 1, 0, 7, 5);
        e.is(3, "next", 0, 0, 0);
        e.call("way", 0, 2, 1, 2);
        e.call("way", 2, 1, 0, 4);
        e.is(3, "next", 0, 0, 0);
        e.call("way", 2, 1, 1, 3);
        e.is(1, "next", 0, 0, 0);
        e.is(1, "next", 2, 0, 0);
        e.call("way", 0, 3, 0, 3);
        e.call("way", 3, 1, 2, 2);
        e.is(0, "next", 0, 0, 0);
        e.call("shut", 6, true);
        e.is(1, "next", 0, 0, 0);
        e.call("shut", 4, true);
        e.is(3, "next", 0, 0, 0);
        e.call("shut", 1, true);
        e.is(7, "next", 0, 0, 0);
    }
}
