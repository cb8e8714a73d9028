/** Boundaries of promises 27 to 34 and of the laws of terms 4: breaches, needs, wrong rows, the fewest. */
final class EdgesOfLaws {
    private static final int BAD = Edges.BAD, NO = Edges.NO, FULL = Edges.FULL, NONE = Edges.NONE;
    private static final int SIGN = 0, DOOR = 2, LIGHT = 3, MAP = 4, HAND = 5;
    private final Edges e;

    EdgesOfLaws(Edges edges) {
        e = edges;
    }

    void all() {
        breaches();
        breach();
        mostBreaches();
        beyondMost();
        quarrels();
        noWay();
        threeWays();
        goalsThere();
        rowsThere();
        rowsThereOfGroups();
        litObeyedOrShut();
        orderOfBreaches();
        needs();
        needsOfGroups();
        wrong();
        wrongOfGoals();
        wrongOfGroups();
        mend();
        choose();
        clear();
        fewest();
        fewestOfSix();
        fullHouse();
        fewestOfSeveral();
        fewestIsObeyed();
    }

    private void row(int place, int kind, int name, int arrow) {
        int sign = e.call("sign", place, kind, 1);
        e.call("row", sign, name, arrow);
    }

    private void breaches() {
        e.promise(27, "How many BREACHES there are of one sort (1 .. 4), of all (0). BAD.");
        e.furnished();
        e.call("aim", 0, 0, 7);
        int[] counts = {3, 0, 1, 2, 0};
        for (int which = 0; which < 5; which++) {
            e.reads(counts[which], "breaches", which);
        }
        for (int odd : new int[] {-1, 5, Integer.MIN_VALUE, Integer.MAX_VALUE}) {
            e.refused(BAD, "breaches", odd);
        }
    }

    private void breach() {
        e.promise(28, "The i-th BREACH (from 0 on): what 0 the SIGN, 1 the ROW, 2 which (1 .. 4). BAD: what, i below 0; NONE.");
        e.furnished();
        e.call("aim", 0, 0, 7);
        int[][] all = {{0, 0, 3}, {3, 0, 2}, {3, 0, 3}};
        for (int i = 0; i < all.length; i++) {
            for (int what = 0; what < 3; what++) {
                e.reads(all[i][what], "breach", i, what);
            }
        }
        for (int what = 0; what < 3; what++) {
            e.refused(NONE, "breach", 3, what);
            e.refused(NONE, "breach", Integer.MAX_VALUE, what);
            e.refused(BAD, "breach", -1, what);
            e.refused(BAD, "breach", Integer.MIN_VALUE, what);
        }
        for (int odd : new int[] {-1, 3, Integer.MIN_VALUE, Integer.MAX_VALUE}) {
            e.refused(BAD, "breach", 0, odd);
            e.refused(BAD, "breach", 3, odd);
            e.refused(BAD, "breach", -1, odd);
        }
    }

    /** Fourteen maps with six rows each, that are doors then. */
    private void mostBreaches() {
        e.promise(28, "The i-th BREACH (from 0 on)");
        e.places(1);
        for (int sign = 0; sign < 14; sign++) {
            e.call("sign", 0, MAP, 0);
            for (int row = 0; row < 6; row++) {
                e.call("row", sign, 0, row);
            }
            e.call("turns", sign, DOOR);
        }
        int[] counts = {56 + 83 + 84, 56, 83, 84, 0};
        for (int which = 0; which < 5; which++) {
            e.is(counts[which], "breaches", which);
        }
        e.is(13, "breach", 222, 0);
        e.is(5, "breach", 222, 1);
        e.is(3, "breach", 222, 2);
        e.is(NONE, "breach", 223, 0);
    }

    private void beyondMost() {
        e.terms(4, "1 a ROW beyond MOST");
        int[] most = {4, 5, 2, 3, 6};
        e.corridor(2);
        e.call("sign", 0, MAP, 0);
        for (int rows = 0; rows <= 6; rows++) {
            for (int kind = 0; kind < 5; kind++) {
                e.call("turns", 0, kind);
                e.is(Math.max(0, rows - most[kind]), "breaches", 1);
                e.is(Math.max(0, rows - most[kind]), "breaches", 0);
                e.is(rows > most[kind] ? most[kind] : NONE, "breach", 0, 1);
            }
            e.call("turns", 0, MAP);
            e.call("row", 0, rows, 0);
        }
    }

    private void quarrels() {
        e.terms(4, "2 a ROW ahead of it, or of a SIGN with a lesser number at that PLACE, has its NAME and another ARROW");
        e.star();
        row(0, MAP, 3, 0);
        e.call("row", 0, 3, 0);
        e.call("row", 0, 4, 2);
        e.is(0, "breaches", 2);
        e.call("row", 0, 3, 2);
        e.is(1, "breaches", 2);
        e.is(3, "breach", 0, 1);
        e.call("row", 0, 3, 0);
        e.is(2, "breaches", 2);
        e.call("drop", 0, 4);
        e.call("drop", 0, 3);
        e.is(0, "breaches", 2);
        row(1, MAP, 3, 4);
        e.is(0, "breaches", 2);
        row(0, LIGHT, 3, 0);
        e.is(0, "breaches", 2);
        e.call("row", 2, 5, 4);
        e.is(0, "breaches", 2);
        e.call("row", 2, 4, 4);
        e.is(1, "breaches", 2);
        e.is(2, "breach", 0, 0);
        e.is(2, "breach", 0, 1);
        e.call("aim", 0, 2, 4);
        e.is(0, "breaches", 2);
        row(0, HAND, 3, 6);
        e.is(1, "breaches", 2);
        e.is(3, "breach", 0, 0);
    }

    private void noWay() {
        e.terms(4, "3 no WAY leads in its ARROW's DIRECTION from there");
        e.corridor(3);
        row(1, HAND, 0, 0);
        row(0, HAND, 0, 0);
        for (int arrow = 0; arrow < 8; arrow++) {
            e.call("aim", 0, 0, arrow);
            e.is(arrow == 0 || arrow == 4 ? 0 : 1, "breaches", 3);
            e.is(0, "breaches", 4);
        }
        e.call("aim", 0, 0, 0);
        e.call("aim", 1, 0, 4);
        e.is(1, "breaches", 3);
        e.is(1, "breach", 0, 0);
        e.is(3, "breach", 0, 2);
    }

    private void threeWays() {
        e.terms(4, "4 (else) that leads to a PLACE from which three WAYS or more lead");
        e.corridor(3);
        e.places(2);
        row(0, SIGN, 9, 0);
        e.is(0, "breaches", 4);
        e.call("way", 1, 3, 2, 1);
        e.is(1, "breaches", 4);
        e.is(1, "breaches", 0);
        e.is(4, "breach", 0, 2);
        e.call("way", 1, 4, 3, 1);
        e.is(1, "breaches", 4);
        e.call("aim", 0, 0, 1);
        e.is(0, "breaches", 4);
        e.is(1, "breaches", 3);
        e.fresh();
        e.corridor(2);
        row(0, SIGN, 9, 0);
        e.call("way", 0, 1, 1, 1);
        e.is(0, "breaches", 4);
        e.call("way", 0, 1, 2, 1);
        e.is(1, "breaches", 4);
        e.fresh();
        e.corridor(12);
        for (int place = 0; place < 11; place++) {
            row(place, SIGN, place % 10, 0);
        }
        row(11, SIGN, 1, 4);
        e.is(0, "breaches", 4);
        e.call("way", 11, 10, 1, 1);
        e.is(2, "breaches", 4);
    }

    /** A sign at place 1 leads to the middle of the star. */
    private void toTheMiddle(int name) {
        e.star();
        row(1, SIGN, name, 4);
        e.is(1, "breaches", 4);
    }

    private void goalsThere() {
        e.terms(4, "at which no GOAL of its NAME is (of a GROUP: none of its GOALS)");
        toTheMiddle(1);
        e.call("goal", 0, 0);
        e.is(1, "breaches", 4);
        e.call("goal", 0, -1);
        e.is(0, "breaches", 4);
        e.fresh();
        toTheMiddle(1);
        e.call("goal", 0, -1);
        e.call("goal", 2, -1);
        e.is(1, "breaches", 4);
        e.fresh();
        toTheMiddle(11);
        e.call("goal", 2, 1);
        e.call("goal", 0, 0);
        e.call("goal", 0, -1);
        e.is(1, "breaches", 4);
        e.call("goal", 0, 1);
        e.is(0, "breaches", 4);
        e.fresh();
        toTheMiddle(13);
        e.call("goal", 0, 2);
        e.is(1, "breaches", 4);
        e.call("goal", 0, 3);
        e.is(0, "breaches", 4);
        for (int name : new int[] {0, 13}) {
            e.fresh();
            toTheMiddle(name);
            e.call("goal", 0, 3);
            e.is(0, "breaches", 4);
        }
    }

    private void rowsThere() {
        e.terms(4, "and no SIGN has a ROW of its NAME, nor (of a GOAL that there is) of its GROUP");
        toTheMiddle(1);
        row(2, SIGN, 1, 2);
        row(0, SIGN, 0, 2);
        e.is(1, "breaches", 4);
        e.call("row", 2, 1, 2);
        e.is(0, "breaches", 4);
        e.call("drop", 2, 1);
        e.is(1, "breaches", 4);
        e.call("row", 2, 12, 2);
        e.is(1, "breaches", 4);
        e.call("goal", 2, 2);
        e.is(1, "breaches", 4);
        e.call("goal", 2, 2);
        e.is(0, "breaches", 4);
        e.fresh();
        toTheMiddle(1);
        row(0, SIGN, 12, 2);
        e.call("goal", 2, 2);
        e.call("goal", 2, -1);
        e.is(1, "breaches", 4);
        e.fresh();
        toTheMiddle(0);
        row(0, SIGN, 12, 2);
        e.call("goal", 2, 1);
        e.is(1, "breaches", 4);
    }

    private void rowsThereOfGroups() {
        e.terms(4, "nor (of a GROUP) of a GOAL of it.");
        toTheMiddle(12);
        row(0, SIGN, 1, 2);
        e.is(1, "breaches", 4);
        e.call("goal", 2, 2);
        e.is(1, "breaches", 4);
        e.call("goal", 2, 2);
        e.is(0, "breaches", 4);
        e.call("drop", 1, 0);
        e.is(1, "breaches", 4);
        e.call("row", 1, 11, 2);
        e.is(1, "breaches", 4);
        e.call("row", 1, 12, 2);
        e.is(0, "breaches", 4);
        e.fresh();
        toTheMiddle(12);
        row(0, SIGN, 0, 2);
        e.call("goal", 2, 3);
        e.is(1, "breaches", 4);
    }

    private void litObeyedOrShut() {
        e.terms(4, "(LIT, OBEYED or not; WAYS that are SHUT, too.)");
        toTheMiddle(1);
        for (int way = 0; way < 4; way++) {
            e.call("shut", way, true);
        }
        e.is(1, "breaches", 4);
        e.is(0, "breaches", 3);
        e.text(0, "obey 0");
        e.is(1, "breaches", 4);
        row(0, LIGHT, 1, 0);
        e.is(0, "told", 1, 6);
        e.is(0, "breaches", 4);
        row(0, HAND, 1, 2);
        e.is(1, "breaches", 2);
        e.call("hours", 48);
        e.is(0, "told", 2, 6);
        e.is(1, "breaches", 2);
    }

    private void orderOfBreaches() {
        e.terms(4, "BREACHES, by SIGNS, by ROWS, of one ROW the least first");
        e.star();
        e.call("sign", 1, MAP, 0);
        int[][] rows = {{5, 0}, {6, 4}, {5, 4}, {5, 1}};
        for (int[] row : rows) {
            e.call("row", 0, row[0], row[1]);
        }
        e.call("turns", 0, DOOR);
        row(1, HAND, 6, 0);
        int[][] all = {{0, 0, 3}, {0, 1, 4}, {0, 2, 1}, {0, 2, 2}, {0, 2, 4}, {0, 3, 1}, {0, 3, 2}, {0, 3, 3}, {1, 0, 2}, {1, 0, 3}};
        for (int i = 0; i < all.length; i++) {
            for (int what = 0; what < 3; what++) {
                e.is(all[i][what], "breach", i, what);
            }
        }
        e.is(NONE, "breach", all.length, 0);
        int[] counts = {10, 2, 3, 3, 2};
        for (int which = 0; which < 5; which++) {
            e.is(counts[which], "breaches", which);
        }
    }

    private void needs() {
        e.promise(29, "NEEDS of a PLACE. BAD.");
        e.furnished();
        int[] without = {3, 2, 2, 1, 2};
        for (int place = 0; place < 5; place++) {
            e.reads(without[place], "needs", place, 0);
            e.reads(without[place], "needs", place, 1);
        }
        for (int odd : new int[] {-1, 5, Integer.MIN_VALUE, Integer.MAX_VALUE}) {
            e.refused(BAD, "needs", odd, 0);
        }
        for (int odd : new int[] {-1, 2, Integer.MIN_VALUE, Integer.MAX_VALUE}) {
            e.refused(BAD, "needs", 0, odd);
        }
    }

    private void needsOfGroups() {
        e.terms(4, "NEEDS of a PLACE (for WHEELS): of all GOALS that have a NEXT there: those without a GROUP one each; "
            + "of each GROUP one, if all of its GOALS that have a NEXT there have one, else one each.");
        e.star();
        e.is(0, "needs", 0, 0);
        e.call("goal", 1, -1);
        e.call("goal", 1, -1);
        e.is(2, "needs", 0, 0);
        e.is(0, "needs", 1, 0);
        e.call("goal", 1, 3);
        e.is(3, "needs", 0, 0);
        e.call("goal", 1, 3);
        e.is(3, "needs", 0, 0);
        e.call("goal", 0, 3);
        e.is(3, "needs", 0, 0);
        e.call("goal", 2, 3);
        e.is(5, "needs", 0, 0);
        e.call("shut", 1, true);
        e.is(3, "needs", 0, 0);
        e.call("shut", 0, true);
        e.is(0, "needs", 0, 0);
        e.call("shut", 1, false);
        e.is(1, "needs", 0, 0);
        e.call("goal", 2, 0);
        e.is(2, "needs", 0, 0);
        e.is(2, "needs", 3, 0);
    }

    private void wrong() {
        e.promise(30, "How many ROWS are WRONG. BAD.");
        e.furnished();
        e.reads(1, "wrong", 0);
        e.reads(1, "wrong", 1);
        for (int odd : new int[] {-1, 2, Integer.MIN_VALUE, Integer.MAX_VALUE}) {
            e.refused(BAD, "wrong", odd);
        }
    }

    private void wrongOfGoals() {
        e.terms(4, "A ROW is WRONG (for WHEELS), if its ARROW is not NEXT: of its GOAL, if there is such a GOAL and it has a NEXT there");
        e.places(3);
        e.call("way", 0, 1, 0, 101);
        e.call("way", 0, 2, 2, 5);
        e.call("way", 2, 1, 7, 5);
        row(0, MAP, 1, 0);
        e.is(0, "wrong", 0);
        e.call("goal", 0, -1);
        e.is(0, "wrong", 0);
        e.call("goal", 1, -1);
        e.is(0, "wrong", 0);
        e.is(1, "wrong", 1);
        e.call("row", 0, 1, 2);
        e.is(1, "wrong", 0);
        e.is(1, "wrong", 1);
        e.call("row", 0, 0, 5);
        e.call("row", 0, 9, 5);
        e.call("row", 0, 10, 5);
        e.is(1, "wrong", 0);
        e.call("shut", 0, true);
        e.is(1, "wrong", 0);
        e.call("shut", 1, true);
        e.is(0, "wrong", 0);
        e.is(0, "wrong", 1);
    }

    private void wrongOfGroups() {
        e.terms(4, "of a GROUP that of the nearest of its GOALS that have a NEXT there (the least FAR; of several the least number). All others are not.");
        e.star();
        row(0, SIGN, 10, 7);
        e.is(0, "wrong", 0);
        e.call("goal", 0, 0);
        e.is(0, "wrong", 0);
        e.call("goal", 4, 0);
        e.is(1, "wrong", 0);
        e.call("aim", 0, 0, 6);
        e.is(0, "wrong", 0);
        e.call("goal", 3, 0);
        e.is(1, "wrong", 0);
        e.call("aim", 0, 0, 4);
        e.is(0, "wrong", 0);
        e.call("goal", 1, 1);
        e.is(0, "wrong", 0);
        e.call("shut", 2, true);
        e.is(1, "wrong", 0);
        e.fresh();
        e.places(3);
        e.call("way", 0, 1, 5, 4);
        e.call("way", 0, 2, 3, 4);
        row(0, SIGN, 13, 5);
        e.call("goal", 2, 3);
        e.is(1, "wrong", 0);
        e.call("goal", 1, 3);
        e.is(1, "wrong", 0);
        e.call("aim", 0, 0, 3);
        e.is(0, "wrong", 0);
    }

    private void mend() {
        e.promise(31, "All WRONG ROWS are mended: how many were. BAD.");
        e.furnished();
        for (int odd : new int[] {-1, 2, Integer.MIN_VALUE, Integer.MAX_VALUE}) {
            e.refused(BAD, "mend", odd);
        }
        e.is(4, "count", 7);
        e.is(1, "mend", 0);
        e.is(5, "count", 7);
        e.is(0, "wrong", 0);
        e.is(0, "mend", 0);
        e.is(6, "count", 7);
        e.terms(4, "TO MEND: each WRONG ROW has that ARROW.");
        e.places(3);
        e.call("way", 0, 1, 0, 101);
        e.call("way", 0, 2, 2, 5);
        e.call("way", 2, 1, 7, 5);
        e.call("goal", 1, 3);
        row(0, MAP, 0, 6);
        e.call("row", 0, 13, 6);
        e.call("row", 0, 1, 6);
        e.is(2, "mend", 1);
        e.is(2, "rowTold", 0, 0, 1);
        e.is(2, "rowTold", 0, 1, 1);
        e.is(6, "rowTold", 0, 2, 1);
        e.is(2, "mend", 0);
        e.is(0, "rowTold", 0, 0, 1);
        e.is(0, "rowTold", 0, 1, 1);
        e.is(13, "rowTold", 0, 1, 0);
        e.is(0, "mend", 0);
    }

    private void choose() {
        e.promise(32, "A PLACE is told for THE FEWEST: how many are. BAD; NO: it is; FULL: 6 are.");
        e.places(8);
        for (int odd : new int[] {-1, 8, Integer.MIN_VALUE, Integer.MAX_VALUE}) {
            e.refused(BAD, "choose", odd);
        }
        for (int i = 1; i <= 6; i++) {
            e.is(i, "choose", 8 - i);
            e.is(i, "count", 6);
            e.refused(NO, "choose", 8 - i);
        }
        e.refused(FULL, "choose", 0);
        e.refused(FULL, "choose", 1);
        e.refused(NO, "choose", 7);
        e.refused(NO, "choose", 2);
        e.refused(BAD, "choose", 8);
        e.refused(BAD, "choose", -1);
        e.is(6, "count", 6);
    }

    private void clear() {
        e.promise(33, "No PLACE is told any more: how many were.");
        e.places(7);
        e.reads(0, "clear");
        for (int i = 0; i < 6; i++) {
            e.call("choose", i);
        }
        e.is(6, "clear");
        e.is(0, "count", 6);
        e.is(0, "clear");
        e.is(1, "choose", 0);
        e.is(1, "clear");
    }

    /** The signs that are there send all round; one told place mends it, or two others together. */
    private void ring() {
        e.places(5);
        e.call("way", 0, 1, 0, 5);
        e.call("way", 0, 2, 1, 5);
        e.call("way", 1, 2, 2, 1);
        e.call("way", 2, 3, 3, 1);
        e.call("way", 0, 3, 2, 5);
        e.call("goal", 3, -1);
        row(0, HAND, 0, 0);
        row(1, SIGN, 0, 4);
        row(2, SIGN, 0, 5);
    }

    private void fewest() {
        e.promise(34, "THE FEWEST, as bits. BAD; NONE: no set of them does.");
        ring();
        for (int odd : new int[] {-1, 1, Integer.MIN_VALUE, Integer.MAX_VALUE}) {
            e.refused(BAD, "fewest", odd, 0);
        }
        for (int odd : new int[] {-1, 2, Integer.MIN_VALUE, Integer.MAX_VALUE}) {
            e.refused(BAD, "fewest", 0, odd);
        }
        e.refused(NONE, "fewest", 0, 0);
        e.call("choose", 1);
        e.refused(NONE, "fewest", 0, 0);
        e.call("choose", 2);
        e.reads(3, "fewest", 0, 0);
        e.call("choose", 0);
        e.reads(4, "fewest", 0, 1);
        e.call("clear");
        e.refused(NONE, "fewest", 0, 0);
    }

    /** Two ways on from each of six places: each needs a sign. */
    private void fewestOfSix() {
        e.terms(4, "THE FEWEST for a GOAL (and WHEELS): of up to 6 told PLACES the fewest");
        e.places(7);
        for (int i = 0; i < 6; i++) {
            e.call("way", i, i + 1, 0, 1);
            e.call("way", i, i + 1, 1, 101);
        }
        e.call("goal", 6, -1);
        for (int i = 5; i > 0; i--) {
            e.call("choose", i);
            e.is(NONE, "fewest", 0, 0);
        }
        e.call("choose", 0);
        e.is(63, "fewest", 0, 0);
        e.is(31, "fewest", 0, 1);
        e.refused(FULL, "choose", 6);
    }

    /** As many places, ways, goals and told places as can be, and what was told ahead of an image that has fewer. */
    private void fullHouse() {
        e.terms(4, "NEEDS of a PLACE (for WHEELS): of all GOALS that have a NEXT there");
        e.places(12);
        e.call("keep");
        for (int again = 0; again < 2; again++) {
            for (int i = 0; i < 11; i++) {
                e.call("way", i, i + 1, 0, 30);
            }
            for (int i = 0; i < 9; i++) {
                e.call("way", i, i + 1, 2, 30);
            }
            for (int i = 0; i < 10; i++) {
                e.call("goal", 11, i == 9 ? -1 : 3);
            }
            for (int i = 0; i < 6; i++) {
                e.call("choose", i);
            }
            e.is(2, "needs", 0, 0);
            e.is(0, "needs", 11, 0);
            e.is(NONE, "fewest", 9, 0);
            e.is(0, "back");
            e.is(0, "needs", 0, 0);
            e.is(BAD, "fewest", 0, 0);
            e.call("goal", 11, -1);
            for (int i = 1; i < 10; i++) {
                e.call("goal", 11, -1);
            }
            e.is(0, "needs", 0, 0);
            e.is(0, "fewest", 0, 0);
            e.is(0, "fewest", 9, 1);
            e.call("back");
        }
    }

    private void fewestOfSeveral() {
        e.terms(4, "WALKS from all PLACES that have a NEXT would ARRIVE; of several the least as bits (bit i: the i-th told).");
        e.places(4);
        e.call("way", 0, 1, 0, 1);
        e.call("way", 0, 2, 1, 1);
        e.call("way", 1, 2, 3, 1);
        e.call("goal", 2, -1);
        e.call("goal", 3, -1);
        row(0, SIGN, 0, 0);
        row(1, SIGN, 0, 4);
        e.call("choose", 1);
        e.is(1, "fewest", 0, 0);
        e.call("choose", 0);
        e.is(1, "fewest", 0, 0);
        e.call("clear");
        e.call("choose", 2);
        e.is(NONE, "fewest", 0, 0);
        e.call("choose", 0);
        e.call("choose", 1);
        e.is(2, "fewest", 0, 0);
        e.call("aim", 0, 0, 1);
        e.is(0, "fewest", 0, 0);
        e.is(0, "fewest", 1, 0);
        e.call("aim", 0, 0, 7);
        e.is(2, "fewest", 0, 0);
        e.call("shut", 1, true);
        e.call("shut", 2, true);
        e.is(0, "fewest", 0, 0);
    }

    private void fewestIsObeyed() {
        e.terms(4, "if there stood a SIGN that all obey, read ahead of all others, with this NAME and NEXT from there (none where there is no NEXT)");
        ring();
        e.call("choose", 3);
        e.call("choose", 4);
        e.is(NONE, "fewest", 0, 0);
        e.call("choose", 0);
        e.is(4, "fewest", 0, 0);
        e.text(0, "obey 0");
        e.is(NONE, "fewest", 0, 0);
        e.call("choose", 1);
        e.is(NONE, "fewest", 0, 0);
        e.call("choose", 2);
        e.is(4 + 8 + 16, "fewest", 0, 0);
        e.is(2, "walk", 0, 0, 0, 0);
        e.is(3, "count", 4);
    }
}
