/** Boundaries of promises 9 to 17 and of terms 2: signs, kinds, rows, what can be undone. */
final class EdgesOfSigns {
    private static final int BAD = Edges.BAD, NO = Edges.NO, FULL = Edges.FULL, NONE = Edges.NONE, KIND = Edges.KIND;
    private static final int SIGN = 0, OVER = 1, DOOR = 2, LIGHT = 3, MAP = 4, HAND = 5;
    private static final int[] MOST = {4, 5, 2, 3, 6, 1};
    private final Edges e;

    EdgesOfSigns(Edges edges) {
        e = edges;
    }

    void all() {
        signsAtMost();
        signRefused();
        daysOfHands();
        daysOfOthers();
        signEndsUndoing();
        told();
        mostRows();
        seen();
        prices();
        kindsNotNamed();
        litAtHours();
        litByTexts();
        litHands();
        handsOfTheLastDay();
        kindsUnderOthers();
        as();
        turns();
        turnsKeepRows();
        rowRefused();
        rowFull();
        arrowsOfRows();
        rowTold();
        drop();
        aim();
        undo();
        sixteenChanges();
        changesOfEachSort();
        noChanges();
    }

    private void sign(int kind) {
        e.places(1);
        e.call("sign", 0, kind, 1);
    }

    private void signsAtMost() {
        e.terms(2, "SIGNS, 14 at most, numbered from 0, each at a PLACE, of a KIND");
        fourteenSigns();
        e.promise(9, "BAD; FULL.");
        fourteenSigns();
    }

    private void fourteenSigns() {
        e.places(3);
        for (int i = 0; i < 14; i++) {
            e.is(i, "sign", i % 3, i % 6, 9);
            e.is(i + 1, "count", 3);
        }
        e.refused(FULL, "sign", 0, SIGN, 0);
        e.refused(FULL, "sign", 2, HAND, 99);
        e.refused(BAD, "sign", 3, SIGN, 0);
        e.refused(BAD, "sign", 0, 6, 1);
        e.refused(BAD, "sign", 0, HAND, 0);
        e.is(1, "told", 13, 1);
        e.refused(BAD, "told", 14, 1);
    }

    private void signRefused() {
        e.promise(9, "BAD; FULL.");
        e.furnished();
        for (int odd : new int[] {-1, 6, Integer.MIN_VALUE, Integer.MAX_VALUE}) {
            e.refused(BAD, "sign", 0, odd, 1);
        }
        for (int odd : new int[] {-1, 5, Integer.MIN_VALUE, Integer.MAX_VALUE}) {
            e.refused(BAD, "sign", odd, SIGN, 1);
        }
        for (int kind = 0; kind < 6; kind++) {
            e.is(6 + kind, "sign", kind == 5 ? 4 : kind, kind, 1);
            e.is(kind, "told", 6 + kind, 1);
        }
    }

    private void daysOfHands() {
        e.promise(9, "(days: of a HAND 1 .. 99, UNTIL is DAY and these");
        e.places(1);
        for (int days : new int[] {0, -1, 100, Integer.MIN_VALUE, Integer.MAX_VALUE}) {
            e.refused(BAD, "sign", 0, HAND, days);
        }
        e.is(0, "sign", 0, HAND, 1);
        e.is(1, "sign", 0, HAND, 99);
        e.is(1, "told", 0, 8);
        e.is(99, "told", 1, 8);
        e.call("hours", 48);
        e.is(2, "sign", 0, HAND, 1);
        e.is(3, "told", 2, 8);
        e.is(1, "told", 0, 8);
    }

    private void daysOfOthers() {
        e.promise(9, "of others any)");
        e.places(1);
        int sign = 0;
        for (int kind = 0; kind < HAND; kind++) {
            for (int days : new int[] {0, Integer.MIN_VALUE}) {
                e.is(sign, "sign", 0, kind, days);
                e.is(NONE, "told", sign, 8);
                sign++;
            }
        }
        e.is(sign, "sign", 0, LIGHT, 100);
        e.is(sign + 1, "sign", 0, MAP, Integer.MAX_VALUE);
    }

    private void signEndsUndoing() {
        e.promise(9, "its number (nothing can be undone then)");
        sign(SIGN);
        e.call("row", 0, 1, 1);
        e.is(1, "count", 7);
        e.refused(BAD, "sign", 1, SIGN, 0);
        e.is(1, "count", 7);
        e.is(1, "sign", 0, SIGN, 0);
        e.is(0, "count", 7);
        e.refused(NO, "undo");
        e.is(1, "told", 0, 2);
        e.call("row", 0, 2, 2);
        e.is(0, "undo");
        e.is(1, "told", 0, 2);
    }

    private void told() {
        e.promise(10, "Of a SIGN: what 0 PLACE, 1 KIND, 2 how many ROWS, 3 MOST, 4 SEEN, 5 PRICE, 6 whether LIT (1, 0), 7 ASTRAY, 8 UNTIL (NONE: no HAND), "
            + "9 whether OBEYED without WHEELS (1, 0). BAD.");
        e.places(2);
        e.call("sign", 1, LIGHT, 0);
        e.call("sign", 0, HAND, 7);
        e.call("row", 0, 3, 3);
        int[] light = {1, 3, 1, 3, 5, 34, 0, 0, NONE, 1};
        int[] hand = {0, 5, 0, 1, 6, 1, 1, 0, 7, 1};
        for (int what = 0; what < 10; what++) {
            e.reads(light[what], "told", 0, what);
            e.reads(hand[what], "told", 1, what);
        }
        for (int odd : new int[] {-1, 10, Integer.MIN_VALUE, Integer.MAX_VALUE}) {
            e.refused(BAD, "told", 0, odd);
        }
        for (int odd : new int[] {-1, 2, Integer.MIN_VALUE, Integer.MAX_VALUE}) {
            e.refused(BAD, "told", odd, 0);
        }
        e.text(0, "obey w");
        e.is(0, "told", 0, 9);
        e.text(1, "obey !w");
        e.is(1, "told", 0, 9);
    }

    private void mostRows() {
        e.terms(2, "MOST ROWS: SIGN: 4. OVER: as SIGN, and 1. LIGHT: as OVER, less 2. DOOR: 2. MAP: 3 times as DOOR. HAND: as SIGN, less 3.");
        for (int kind = 0; kind < 6; kind++) {
            e.fresh();
            sign(kind);
            e.is(MOST[kind], "told", 0, 3);
            for (int i = 1; i <= MOST[kind]; i++) {
                e.is(i, "row", 0, i, i);
            }
            e.refused(FULL, "row", 0, 0, 0);
            e.is(0, "breaches", 1);
        }
    }

    private void seen() {
        e.terms(2, "SEEN: SIGN: 3. OVER: as SIGN, and 2. DOOR: 1. HAND: twice as SIGN.");
        e.places(1);
        int[] seen = {3, 5, 1, 5, 1, 6};
        for (int kind = 0; kind < 6; kind++) {
            e.call("sign", 0, kind, 1);
            e.is(seen[kind], "told", kind, 4);
        }
    }

    private void prices() {
        e.terms(2, "PRICE: SIGN: 10, and 2 for each ROW. OVER: as SIGN, and 5. LIGHT: twice as OVER. DOOR: half (cut) of as SIGN. MAP: as DOOR, and 8. HAND: 1.");
        int[] none = {10, 15, 5, 30, 13, 1};
        int[] each = {2, 2, 1, 4, 1, 0};
        for (int kind = 0; kind < 6; kind++) {
            e.fresh();
            sign(kind);
            e.is(none[kind], "told", 0, 5);
            for (int i = 1; i <= MOST[kind]; i++) {
                e.call("row", 0, 0, 0);
                e.is(none[kind] + i * each[kind], "told", 0, 5);
            }
        }
        e.fresh();
        sign(MAP);
        for (int i = 0; i < 6; i++) {
            e.call("row", 0, 0, 0);
        }
        for (int kind = 0; kind < HAND; kind++) {
            e.call("turns", 0, kind);
            e.is(none[kind] + 6 * each[kind], "told", 0, 5);
        }
    }

    private void kindsNotNamed() {
        e.terms(2, "(A KIND that is not named does as the one above it.)");
        e.places(1);
        for (int kind = 0; kind < 6; kind++) {
            e.call("sign", 0, kind, 1);
        }
        e.is(5, "told", OVER, 4);
        e.is(5, "told", LIGHT, 4);
        e.is(1, "told", DOOR, 4);
        e.is(1, "told", MAP, 4);
        e.terms(2, "LIT: SIGN: yes.");
        e.places(1);
        for (int kind = 0; kind < 6; kind++) {
            e.call("sign", 0, kind, 1);
        }
        int[] lit = {1, 1, 1, 0, 1, 1};
        for (int kind = 0; kind < 6; kind++) {
            e.is(lit[kind], "told", kind, 6);
        }
        e.call("hours", 24);
        lit[HAND] = 0;
        for (int kind = 0; kind < 6; kind++) {
            e.is(lit[kind], "told", kind, 6);
        }
    }

    private void litAtHours() {
        e.terms(2, "LIGHT: if what light gives for it is not 0 (without a TEXT: HOUR 18 or more, or below 6).");
        e.places(1);
        for (int kind = 0; kind < 6; kind++) {
            e.call("sign", 0, kind, 9);
        }
        for (int i = 0; i < 24; i++) {
            int hour = e.call("hours", 1);
            e.is(hour >= 18 || hour < 6 ? 1 : 0, "told", LIGHT, 6);
            for (int kind : new int[] {SIGN, OVER, DOOR, MAP, HAND}) {
                e.is(1, "told", kind, 6);
            }
        }
    }

    private void litByTexts() {
        e.terms(2, "LIGHT: if what light gives for it is not 0");
        e.places(1);
        for (int kind = 0; kind < 6; kind++) {
            e.call("sign", 0, kind, 9);
        }
        String[] texts = {"light 0", "light 1", "light 9", "light 0-1", "light r", "light !r&h=8&d=0"};
        int[] lit = {0, 1, 1, 1, 0, 1};
        for (int i = 0; i < texts.length; i++) {
            e.text(i, texts[i]);
            for (int kind = 0; kind < 6; kind++) {
                e.is(kind == LIGHT ? lit[i] : 1, "told", kind, 6);
            }
        }
        e.call("row", LIGHT, 0, 0);
        e.is(0, "told", LIGHT, 6);
    }

    private void litHands() {
        e.terms(2, "HAND: if DAY is below its UNTIL.");
        e.places(1);
        e.call("sign", 0, HAND, 1);
        e.call("sign", 0, HAND, 2);
        e.is(1, "told", 0, 6);
        e.call("hours", 15);
        e.is(1, "told", 0, 6);
        e.call("hours", 1);
        e.is(0, "told", 0, 6);
        e.is(1, "told", 1, 6);
        e.call("hours", 23);
        e.is(1, "told", 1, 6);
        e.call("hours", 1);
        e.is(0, "told", 1, 6);
        e.call("hours", 48);
        e.is(0, "told", 1, 6);
    }

    /** UNTIL may be above the last day. */
    private void handsOfTheLastDay() {
        e.terms(2, "HAND: if DAY is below its UNTIL.");
        e.places(1);
        for (int i = 0; i < 499; i++) {
            e.call("hours", 48);
        }
        e.is(23, "hours", 39);
        e.is(0, "sign", 0, HAND, 1);
        e.is(1, "sign", 0, HAND, 99);
        e.is(1000, "told", 0, 8);
        e.is(1098, "told", 1, 8);
        e.is(1, "told", 0, 6);
        e.is(1, "told", 1, 6);
    }

    private void kindsUnderOthers() {
        e.terms(2, "0 SIGN; 1 OVER, 2 DOOR, 5 HAND, under SIGN; 3 LIGHT, under OVER; 4 MAP, under DOOR (all are SIGNS)");
        boolean[][] is = {{true, false, false, false, false, false}, {true, true, false, false, false, false}, {true, false, true, false, false, false},
            {true, true, false, true, false, false}, {true, false, true, false, true, false}, {true, false, false, false, false, true}};
        e.places(1);
        for (int kind = 0; kind < 6; kind++) {
            e.call("sign", 0, kind, 1);
            e.call("row", kind, 0, 0);
            for (int asked = 0; asked < 6; asked++) {
                e.is(is[kind][asked] ? 1 : KIND, "as", kind, asked);
            }
        }
    }

    private void as() {
        e.promise(11, "how many ROWS. BAD: sign, kind; KIND: it is not of that KIND, nor of one under it.");
        e.furnished();
        e.reads(2, "as", 0, SIGN);
        e.refused(KIND, "as", 0, OVER);
        e.refused(KIND, "as", 0, LIGHT);
        e.reads(1, "as", 3, OVER);
        e.refused(KIND, "as", 3, DOOR);
        e.reads(0, "as", 5, HAND);
        for (int odd : new int[] {-1, 6, Integer.MIN_VALUE, Integer.MAX_VALUE}) {
            e.refused(BAD, "as", 0, odd);
            e.refused(BAD, "as", odd, 0);
            e.refused(BAD, "as", odd, OVER);
        }
    }

    private void turns() {
        e.promise(12, "A SIGN is of another KIND (0 .. 4) from now on: what it was. BAD; NO: it is a HAND.");
        e.furnished();
        for (int odd : new int[] {-1, 5, 6, Integer.MIN_VALUE, Integer.MAX_VALUE}) {
            e.refused(BAD, "turns", 0, odd);
            e.refused(BAD, "turns", 5, odd);
        }
        for (int odd : new int[] {-1, 6, Integer.MIN_VALUE, Integer.MAX_VALUE}) {
            e.refused(BAD, "turns", odd, 0);
        }
        for (int kind = 0; kind < 5; kind++) {
            e.refused(NO, "turns", 5, kind);
        }
        int before = 0;
        for (int kind = 4; kind >= 0; kind--) {
            e.is(before, "turns", 0, kind);
            e.is(kind, "told", 0, 1);
            before = kind;
        }
    }

    private void turnsKeepRows() {
        e.promise(12, "A SIGN is of another KIND (0 .. 4) from now on");
        sign(MAP);
        for (int i = 0; i < 6; i++) {
            e.call("row", 0, i, i);
        }
        e.is(4, "turns", 0, DOOR);
        e.is(6, "told", 0, 2);
        e.is(2, "told", 0, 3);
        e.is(NONE, "told", 0, 8);
        e.is(5, "rowTold", 0, 5, 1);
        e.is(6, "count", 7);
        e.is(5, "undo");
        e.is(5, "told", 0, 2);
        e.is(2, "told", 0, 1);
    }

    private void rowRefused() {
        e.promise(13, "BAD: sign, name, arrow; FULL: it has MOST or more.");
        e.furnished();
        for (int odd : new int[] {-1, 6, Integer.MIN_VALUE, Integer.MAX_VALUE}) {
            e.refused(BAD, "row", odd, 0, 0);
        }
        for (int odd : new int[] {-1, 14, Integer.MIN_VALUE, Integer.MAX_VALUE}) {
            e.refused(BAD, "row", 0, odd, 0);
        }
        for (int odd : new int[] {-1, 8, Integer.MIN_VALUE, Integer.MAX_VALUE}) {
            e.refused(BAD, "row", 0, 0, odd);
        }
        e.is(3, "row", 0, 0, 0);
        e.is(4, "row", 0, 13, 7);
        e.is(1, "row", 5, 13, 0);
    }

    private void rowFull() {
        e.promise(13, "FULL: it has MOST or more.");
        sign(MAP);
        for (int i = 1; i <= 5; i++) {
            e.is(i, "row", 0, 0, 0);
        }
        e.call("turns", 0, OVER);
        e.refused(FULL, "row", 0, 0, 0);
        e.refused(BAD, "row", 0, 14, 0);
        e.refused(BAD, "row", 0, 0, 8);
        e.call("turns", 0, SIGN);
        e.refused(FULL, "row", 0, 0, 0);
        e.call("drop", 0, 0);
        e.refused(FULL, "row", 0, 0, 0);
        e.call("drop", 0, 0);
        e.is(4, "row", 0, 0, 0);
        e.refused(FULL, "row", 0, 0, 0);
        e.call("turns", 0, MAP);
        e.is(5, "row", 0, 0, 0);
        e.is(6, "row", 0, 0, 0);
        e.refused(FULL, "row", 0, 0, 0);
    }

    private void arrowsOfRows() {
        e.terms(2, "with ROWS, from 0 on, each a NAME and an ARROW (a DIRECTION)");
        e.places(1);
        for (int arrow = 0; arrow < 8; arrow++) {
            e.call("sign", 0, HAND, 1);
            e.is(1, "row", arrow, 13 - arrow, arrow);
            e.is(13 - arrow, "rowTold", arrow, 0, 0);
            e.is(arrow, "rowTold", arrow, 0, 1);
        }
    }

    private void rowTold() {
        e.promise(14, "what 0 NAME, 1 ARROW. BAD: sign, what; NONE: it has no such ROW.");
        e.furnished();
        e.reads(10, "rowTold", 0, 0, 0);
        e.reads(0, "rowTold", 0, 0, 1);
        e.reads(2, "rowTold", 0, 1, 0);
        e.reads(4, "rowTold", 0, 1, 1);
        for (int odd : new int[] {-1, 2, Integer.MIN_VALUE, Integer.MAX_VALUE}) {
            e.refused(NONE, "rowTold", 0, odd, 0);
            e.refused(BAD, "rowTold", 0, 0, odd);
            e.refused(BAD, "rowTold", 0, odd, odd);
        }
        for (int odd : new int[] {-1, 6, Integer.MIN_VALUE, Integer.MAX_VALUE}) {
            e.refused(BAD, "rowTold", odd, 0, 0);
        }
        e.refused(NONE, "rowTold", 2, 0, 0);
        e.call("drop", 0, 0);
        e.refused(NONE, "rowTold", 0, 1, 0);
    }

    private void drop() {
        e.promise(15, "A ROW goes (those behind it come one up): how many are left. BAD: also if there is no such ROW.");
        sign(MAP);
        for (int i = 0; i < 6; i++) {
            e.call("row", 0, i, i);
        }
        for (int odd : new int[] {-1, 6, Integer.MIN_VALUE, Integer.MAX_VALUE}) {
            e.refused(BAD, "drop", 0, odd);
        }
        for (int odd : new int[] {-1, 1, Integer.MIN_VALUE, Integer.MAX_VALUE}) {
            e.refused(BAD, "drop", odd, 0);
        }
        e.is(5, "drop", 0, 5);
        e.is(4, "drop", 0, 0);
        e.is(3, "drop", 0, 1);
        int[] left = {1, 3, 4};
        for (int row = 0; row < 3; row++) {
            e.is(left[row], "rowTold", 0, row, 0);
            e.is(left[row], "rowTold", 0, row, 1);
        }
        e.refused(BAD, "drop", 0, 3);
        e.is(2, "drop", 0, 0);
        e.is(1, "drop", 0, 0);
        e.is(0, "drop", 0, 0);
        e.refused(BAD, "drop", 0, 0);
    }

    private void aim() {
        e.promise(16, "A ROW has another ARROW: what it had. BAD likewise.");
        e.furnished();
        for (int odd : new int[] {-1, 6, Integer.MIN_VALUE, Integer.MAX_VALUE}) {
            e.refused(BAD, "aim", odd, 0, 0);
        }
        for (int odd : new int[] {-1, 2, Integer.MIN_VALUE, Integer.MAX_VALUE}) {
            e.refused(BAD, "aim", 0, odd, 0);
        }
        for (int odd : new int[] {-1, 8, Integer.MIN_VALUE, Integer.MAX_VALUE}) {
            e.refused(BAD, "aim", 0, 0, odd);
        }
        e.refused(BAD, "aim", 2, 0, 0);
        e.is(0, "aim", 0, 0, 7);
        e.is(7, "aim", 0, 0, 0);
        e.is(0, "aim", 0, 0, 0);
        e.is(4, "aim", 0, 1, 3);
        e.is(10, "rowTold", 0, 0, 0);
        e.is(3, "rowTold", 0, 1, 1);
    }

    private void undo() {
        e.promise(17, "The latest change of ROWS is undone: how many more can be. NO: none can.");
        sign(SIGN);
        e.refused(NO, "undo");
        e.is(1, "row", 0, 1, 1);
        e.is(0, "undo");
        e.is(0, "told", 0, 2);
        e.refused(NO, "undo");
        e.call("row", 0, 1, 1);
        e.call("row", 0, 2, 2);
        e.is(1, "undo");
        e.is(1, "told", 0, 2);
        e.is(2, "row", 0, 3, 3);
        e.is(2, "count", 7);
        e.is(1, "undo");
        e.is(0, "undo");
        e.refused(NO, "undo");
    }

    private void sixteenChanges() {
        e.terms(4, "The latest 16 changes of ROWS (of row, drop, aim, mend, fill, each one, also if it changed nothing) can be undone, one by one");
        for (int changes = 15; changes <= 40; changes += changes == 15 || changes == 16 ? 1 : 23) {
            e.fresh();
            sign(SIGN);
            e.call("row", 0, 0, 0);
            for (int i = 1; i < changes; i++) {
                e.call("aim", 0, 0, i % 8);
                e.is(Math.min(16, i + 1), "count", 7);
            }
            int can = Math.min(16, changes);
            for (int left = can - 1; left >= 0; left--) {
                e.is(left, "undo");
                e.is(left, "count", 7);
                int change = changes - (can - left) - 1;
                e.is(change < 0 ? NONE : change % 8, "rowTold", 0, 0, 1);
            }
            e.refused(NO, "undo");
        }
    }

    private void changesOfEachSort() {
        e.terms(4, "ROWS of all SIGNS are as ahead of it.");
        e.star();
        e.call("goal", 1, -1);
        e.call("sign", 0, SIGN, 0);
        e.call("sign", 0, MAP, 0);
        e.call("sheet", 0, 0, 2);
        e.call("row", 0, 0, 5);
        e.call("row", 1, 0, 6);
        e.is(2, "mend", 0);
        e.is(1, "fill", 1, 0);
        e.is(0, "drop", 0, 0);
        e.is(5, "count", 7);
        e.is(4, "undo");
        e.is(0, "rowTold", 0, 0, 1);
        e.is(3, "undo");
        e.is(0, "rowTold", 1, 0, 1);
        e.is(2, "undo");
        e.is(5, "rowTold", 0, 0, 1);
        e.is(6, "rowTold", 1, 0, 1);
        e.is(1, "undo");
        e.is(0, "told", 1, 2);
        e.is(5, "rowTold", 0, 0, 1);
        e.is(0, "undo");
        e.is(0, "count", 4);
    }

    private void noChanges() {
        e.terms(4, "each one, also if it changed nothing");
        sign(SIGN);
        e.call("sheet", 0, 0, 0);
        e.is(0, "mend", 0);
        e.is(1, "count", 7);
        e.is(0, "mend", 1);
        e.is(0, "fill", 0, 0);
        e.call("row", 0, 0, 3);
        e.is(3, "aim", 0, 0, 3);
        e.is(5, "count", 7);
        e.is(4, "undo");
        e.is(3, "rowTold", 0, 0, 1);
        e.fresh();
        for (int i = 1; i <= 17; i++) {
            e.is(0, "mend", 0);
            e.is(Math.min(i, 16), "count", 7);
        }
        e.is(15, "undo");
    }
}
