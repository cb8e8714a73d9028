/** Boundaries of terms 0: what a refused call answers, and that it changes nothing. */
final class EdgesOfRefusals {
    private static final int BAD = Edges.BAD, NO = Edges.NO, FULL = Edges.FULL, NONE = Edges.NONE;
    private static final int NOTHING = Edges.NOTHING, KIND = Edges.KIND, INDEX = Edges.INDEX, SIZE = Edges.SIZE;
    private final Edges e;

    EdgesOfRefusals(Edges edges) {
        e = edges;
    }

    void all() {
        constants();
        house();
        signsAndTexts();
        walksAndLaws();
        sheetsAndSlots();
        ofSeveral();
        tapeAndNumbers();
        none();
    }

    private void constants() {
        e.terms(0, "A call that is refused answers one of BAD, NO, FULL, or a FINDING");
        int[] all = {BAD, NO, FULL, NONE, NOTHING, KIND, INDEX, SIZE};
        int[] told = {-1000000001, -1000000002, -1000000003, -1000000005, -1000000011, -1000000012, -1000000013, -1000000014};
        for (int i = 0; i < all.length; i++) {
            e.holds("a constant is " + told[i], all[i] == told[i]);
        }
    }

    private void changesNothing() {
        e.terms(0, "and changes nothing (but the tape and the numbers that wait, where told).");
        e.furnished();
    }

    private void house() {
        changesNothing();
        e.refused(BAD, "way", 0, 0, 0, 1);
        e.refused(NO, "way", 0, 1, 0, 1);
        e.refused(BAD, "wayTold", 6, 0);
        e.refused(BAD, "shut", 6, true);
        e.refused(BAD, "goal", 5, 0);
        e.refused(BAD, "goalTold", 3, 0);
        e.refused(BAD, "hours", 0);
        for (int i = 0; i < 7; i++) {
            e.call("place");
            e.call("goal", 0, 0);
        }
        e.refused(FULL, "place");
        e.refused(FULL, "goal", 0, 0);
        for (int i = 0; i < 14; i++) {
            e.call("way", 5 + i % 6, 6 + i % 6, i / 6, 1);
        }
        e.refused(FULL, "way", 5, 6, 6, 1);
    }

    private void signsAndTexts() {
        changesNothing();
        e.refused(BAD, "sign", 0, 6, 0);
        e.refused(BAD, "told", 6, 0);
        e.refused(BAD, "as", 6, 0);
        e.refused(KIND, "as", 0, 1);
        e.refused(BAD, "turns", 6, 0);
        e.refused(NO, "turns", 5, 0);
        e.refused(BAD, "row", 0, 14, 0);
        e.refused(BAD, "rowTold", 0, 0, 2);
        e.refused(BAD, "drop", 0, 2);
        e.refused(BAD, "aim", 0, 2, 0);
        e.refused(BAD, "trim", 8);
        e.refused(BAD, "textTold", 1, 0);
        e.refused(BAD, "why", 3);
        for (int i = 2; i < 4; i++) {
            e.call("row", 0, i, i);
        }
        e.refused(FULL, "row", 0, 0, 0);
        for (int i = 6; i < 14; i++) {
            e.call("sign", 0, 0, 0);
        }
        e.refused(FULL, "sign", 0, 0, 0);
        e.refused(NO, "undo");
        for (int i = 0; i < 7; i++) {
            e.call("feed", i, i, i);
        }
        e.refused(FULL, "feed", 1, 2, 3);
    }

    private void walksAndLaws() {
        changesNothing();
        e.refused(BAD, "walk", 5, 0, 0, 0);
        e.refused(BAD, "via", 5, 0, 0, 0);
        e.refused(BAD, "far", 5, 0, 0);
        e.refused(BAD, "next", 5, 0, 0);
        e.refused(BAD, "breaches", 5);
        e.refused(BAD, "breach", 0, 3);
        e.refused(BAD, "needs", 5, 0);
        e.refused(BAD, "wrong", 2);
        e.refused(BAD, "mend", 2);
        e.refused(BAD, "choose", 5);
        e.refused(NO, "choose", 4);
        e.refused(BAD, "fewest", 3, 0);
        e.refused(BAD, "strangers", 61);
        e.refused(BAD, "count", 13);
    }

    private void sheetsAndSlots() {
        changesNothing();
        e.refused(BAD, "sheet", 1, 0, 25);
        e.refused(SIZE, "sheet", 1, 0, -1);
        e.refused(BAD, "mark", 4, 0, 0);
        e.refused(NOTHING, "mark", 0, 0, 0);
        e.refused(INDEX, "mark", 1, 4, 0);
        e.refused(BAD, "fill", 6, 1);
        e.refused(NOTHING, "fill", 0, 0);
        e.refused(BAD, "copy", 1, 0, 4, 0, 1);
        e.refused(NOTHING, "copy", 1, 0, 0, 0, 1);
        e.refused(KIND, "copy", 1, 0, 2, 0, 1);
        e.refused(INDEX, "copy", 1, 0, 1, 1, 4);
        e.refused(BAD, "lay", 0, 4, 0);
        e.refused(NOTHING, "lay", 0, 2, 0);
        e.refused(BAD, "ask", 0, 6);
        e.refused(NOTHING, "ask", 3, 0);
        e.refused(KIND, "ask", 2, 0);
        e.refused(BAD, "item", 5, 0);
        e.refused(NOTHING, "item", 3, 0);
        e.refused(KIND, "item", 2, 0);
        e.refused(INDEX, "item", 1, 4);
        e.refused(BAD, "rest", 5, 1);
        e.refused(NOTHING, "rest", 3, 1);
        e.refused(KIND, "rest", 1, 1);
        e.refused(NO, "rest", 2, 0);
        for (int i = 1; i < 60; i++) {
            e.call("tell", i);
        }
        e.refused(FULL, "tell", 1);
    }

    /** Each call here could be refused for two reasons; the first has the second behind it. */
    private void ofSeveral() {
        e.terms(0, "of several the one that stands first with it");
        e.furnished();
        e.refused(BAD, "way", 0, 1, 0, 0);
        e.refused(BAD, "sign", 5, 5, 0);
        e.refused(BAD, "as", 6, 9);
        e.refused(BAD, "turns", 5, 5);
        e.refused(BAD, "rowTold", 0, 9, 9);
        e.refused(BAD, "breach", 99, 9);
        e.refused(BAD, "via", 0, 0, 2, 99);
        e.refused(BAD, "sheet", 4, 0, -1);
        e.refused(BAD, "mark", 4, -1, 0);
        e.refused(NOTHING, "mark", 0, -1, 0);
        e.refused(BAD, "fill", 6, 0);
        e.refused(BAD, "copy", 4, -1, 0, -1, -1);
        e.refused(NOTHING, "copy", 0, -1, 2, -1, -1);
        e.refused(KIND, "copy", 1, -1, 2, -1, -1);
        e.refused(BAD, "lay", 5, 2, 0);
        e.refused(BAD, "ask", 3, 6);
        e.refused(NOTHING, "item", 3, -1);
        e.refused(KIND, "item", 2, -1);
        e.refused(NOTHING, "rest", 3, 0);
        e.refused(KIND, "rest", 0, 0);
    }

    private void tapeAndNumbers() {
        e.terms(0, "(but the tape and the numbers that wait, where told)");
        e.furnished();
        e.is(7, "count", 9);
        e.call("trim", 5);
        e.is(-105, "text");
        e.is(0, "count", 9);
        e.is(1, "count", 8);
        e.is(BAD, "check", 31);
        e.is(0, "count", 8);
    }

    private void none() {
        e.terms(0, "NONE: there is none.");
        e.furnished();
        e.refused(NONE, "goalTold", 2, 1);
        e.refused(NONE, "told", 0, 8);
        e.refused(NONE, "rowTold", 0, 2, 0);
        e.refused(NONE, "why", 0);
        e.refused(NONE, "walk", 1, 0, 0, 4);
        e.refused(NONE, "via", 1, 0, 0, 1);
        e.refused(NONE, "next", 1, 0, 0);
        e.refused(NONE, "breach", 99, 0);
        e.reads(0, "goalTold", 0, 1);
        e.reads(9, "told", 5, 8);
        e.reads(2, "rowTold", 0, 1, 0);
        e.reads(0, "why", 1);
        e.reads(0, "walk", 0, 0, 0, 4);
        e.reads(1, "via", 0, 0, 0, 1);
        e.reads(0, "next", 0, 0, 0);
    }
}
