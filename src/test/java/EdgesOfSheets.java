/** Boundaries of promises 38 to 45 and of the sheets and slots of terms 5. */
final class EdgesOfSheets {
    private static final int BAD = Edges.BAD, NO = Edges.NO, NOTHING = Edges.NOTHING, KIND = Edges.KIND, INDEX = Edges.INDEX, SIZE = Edges.SIZE;
    private static final int BYTES = 0, SHORTS = 1, LEAST = Integer.MIN_VALUE, GREATEST = Integer.MAX_VALUE;
    private static final int SIGN = 0, DOOR = 2, LIGHT = 3, MAP = 4, HAND = 5;
    private final Edges e;

    EdgesOfSheets(Edges edges) {
        e = edges;
    }

    void all() {
        sheet();
        sheetSizes();
        sheetMissing();
        markRefused();
        markBytes();
        markShorts();
        fillRefused();
        fillRows();
        fillMost();
        copyRefused();
        copyIndex();
        copyKind();
        copyFromTo();
        copyOnItself();
        layRefused();
        layThings();
        slotsAtFirst();
        ask();
        askKinds();
        item();
        rest();
        asItWasThen();
        findings();
    }

    private void marked(int sheet, int sort, int... values) {
        e.call("sheet", sheet, sort, values.length);
        for (int i = 0; i < values.length; i++) {
            e.call("mark", sheet, i, values[i]);
        }
    }

    /** Its places, read by marking each as it is. */
    private void holds(int sheet, int... values) {
        for (int i = 0; i < values.length; i++) {
            e.is(values[i], "mark", sheet, i, values[i]);
        }
        e.is(INDEX, "mark", sheet, values.length, 0);
    }

    private void sheet() {
        e.promise(38, "BAD: sheet, sort, n above 24; SIZE.");
        e.furnished();
        for (int odd : new int[] {-1, 4, LEAST, GREATEST}) {
            e.refused(BAD, "sheet", odd, BYTES, 1);
            e.refused(BAD, "sheet", odd, -1, 1);
            e.refused(BAD, "sheet", odd, BYTES, -1);
        }
        for (int odd : new int[] {-2, 2, LEAST, GREATEST}) {
            e.refused(BAD, "sheet", 1, odd, 1);
            e.refused(BAD, "sheet", 1, odd, -1);
        }
        e.refused(BAD, "sheet", 1, BYTES, 25);
        e.refused(BAD, "sheet", 1, SHORTS, GREATEST);
        e.refused(SIZE, "sheet", 1, BYTES, -1);
        e.refused(SIZE, "sheet", 2, SHORTS, LEAST);
        e.refused(SIZE, "sheet", 0, BYTES, -1);
        for (int sheet = 0; sheet < 4; sheet++) {
            e.is(24, "sheet", sheet, sheet % 2, 24);
        }
    }

    private void sheetSizes() {
        e.terms(5, "SHEETS 0 .. 3 are rows of bytes (sort 0) or shorts (1), with 0 to 24 places, or MISSING (at first).");
        for (int sheet = 0; sheet < 4; sheet++) {
            e.refused(NOTHING, "mark", sheet, 0, 1);
        }
        for (int sort = 0; sort < 2; sort++) {
            e.is(0, "sheet", 0, sort, 0);
            e.refused(INDEX, "mark", 0, 0, 1);
            e.is(1, "sheet", 0, sort, 1);
            e.is(0, "mark", 0, 0, 1);
            e.refused(INDEX, "mark", 0, 1, 1);
            e.is(24, "sheet", 3, sort, 24);
            e.is(0, "mark", 3, 23, 5);
            e.refused(INDEX, "mark", 3, 24, 5);
            e.refused(BAD, "sheet", 3, sort, 25);
            e.is(5, "mark", 3, 23, 5);
        }
    }

    private void sheetMissing() {
        e.promise(38, "A SHEET becomes a row of n places of a sort, all 0 (sort -1: MISSING, n any): n (0).");
        for (int n : new int[] {0, 1, 24, 25, -1, LEAST, GREATEST}) {
            marked(1, BYTES, 4, 5);
            e.is(0, "sheet", 1, -1, n);
            e.refused(NOTHING, "mark", 1, 0, 1);
        }
        marked(1, SHORTS, 4, 5);
        e.is(2, "sheet", 1, SHORTS, 2);
        holds(1, 0, 0);
        marked(1, SHORTS, 4, 5);
        e.is(1, "sheet", 1, BYTES, 1);
        e.is(2, "sheet", 1, BYTES, 2);
        holds(1, 0, 0);
    }

    private void markRefused() {
        e.promise(39, "BAD: sheet; NOTHING; INDEX.");
        e.furnished();
        for (int odd : new int[] {-1, 4, LEAST, GREATEST}) {
            e.refused(BAD, "mark", odd, 0, 1);
            e.refused(INDEX, "mark", 1, odd, 1);
            e.refused(NOTHING, "mark", 0, odd, 1);
            e.refused(BAD, "mark", odd, odd, 1);
        }
        e.refused(NOTHING, "mark", 3, 0, 1);
        e.refused(INDEX, "mark", 2, 3, 1);
        e.is(3, "mark", 1, 0, 9);
        e.is(0, "mark", 1, 3, 9);
        e.is(-300, "mark", 2, 2, 9);
        holds(1, 9, 0, 0, 9);
        holds(2, 0, 0, 9);
    }

    private void markBytes() {
        e.promise(39, "A place of a SHEET becomes v (of bytes its lowest 8 bits, of shorts 16): what it was.");
        e.call("sheet", 0, BYTES, 2);
        int[][] all = {{127, 127}, {128, -128}, {255, -1}, {256, 0}, {257, 1}, {-128, -128}, {-129, 127}, {-1, -1}, {300, 44}, {GREATEST, -1}, {LEAST, 0}, {7, 7}};
        int before = 0;
        for (int[] pair : all) {
            e.is(before, "mark", 0, 1, pair[0]);
            before = pair[1];
        }
        holds(0, 0, 7);
    }

    private void markShorts() {
        e.promise(39, "of shorts 16)");
        e.call("sheet", 0, SHORTS, 2);
        int[][] all = {{255, 255}, {32767, 32767}, {32768, -32768}, {65535, -1}, {65536, 0}, {65537, 1}, {-32768, -32768}, {-32769, 32767}, {-1, -1},
            {GREATEST, -1}, {LEAST, 0}, {7, 7}};
        int before = 0;
        for (int[] pair : all) {
            e.is(before, "mark", 0, 0, pair[0]);
            before = pair[1];
        }
        holds(0, 7, 0);
    }

    private void fillRefused() {
        e.promise(40, "BAD: sign, sheet; NOTHING.");
        e.furnished();
        for (int odd : new int[] {-1, 6, LEAST, GREATEST}) {
            e.refused(BAD, "fill", odd, 1);
            e.refused(BAD, "fill", odd, 0);
        }
        for (int odd : new int[] {-1, 4, LEAST, GREATEST}) {
            e.refused(BAD, "fill", 0, odd);
        }
        e.refused(NOTHING, "fill", 0, 0);
        e.refused(NOTHING, "fill", 5, 3);
        e.is(2, "fill", 0, 1);
        e.is(1, "fill", 5, 1);
    }

    private void fillRows() {
        e.promise(40, "two by two places from 0 on (NAME, ARROW), up to MOST, or the first two of which one is missing, or not as told: how many it has then.");
        e.places(1);
        e.call("sign", 0, MAP, 0);
        int[][] sheets = {{}, {1}, {1, 2}, {1, 2, 3}, {1, 2, 3, 4}, {0, 0, 13, 7}, {14, 0, 1, 1}, {13, 8, 1, 1}, {-1, 0, 1, 1}, {0, -1, 1, 1}, {1, 1, 14, 0, 1, 1},
            {1, 1, 13, 8, 1, 1}, {1, 1, -1, 7, 1, 1}, {1, 1, 0, -1, 1, 1}, {1, 1, 13, 7, 1, 1, 9}, {1, 1, 256, 1}, {1, 1, 1, 256}, {1, 1, 270, 1}, {1, 1, 1, 264}};
        int[] bytes = {0, 0, 1, 1, 2, 2, 0, 0, 0, 0, 1, 1, 1, 1, 3, 2, 2, 1, 1};
        int[] shorts = {0, 0, 1, 1, 2, 2, 0, 0, 0, 0, 1, 1, 1, 1, 3, 1, 1, 1, 1};
        for (int i = 0; i < sheets.length; i++) {
            marked(0, BYTES, sheets[i]);
            e.is(bytes[i], "fill", 0, 0);
            e.is(bytes[i], "told", 0, 2);
            marked(1, SHORTS, sheets[i]);
            e.is(shorts[i], "fill", 0, 1);
            e.is(shorts[i], "told", 0, 2);
        }
        marked(0, BYTES, 13, 7, 0, 0, 9);
        e.is(2, "fill", 0, 0);
        int[] told = {13, 7, 0, 0};
        for (int i = 0; i < 4; i++) {
            e.is(told[i], "rowTold", 0, i / 2, i % 2);
        }
    }

    private void fillMost() {
        e.promise(40, "up to MOST");
        int[] most = {4, 5, 2, 3, 6, 1};
        e.places(1);
        e.call("sheet", 2, BYTES, 24);
        for (int i = 0; i < 24; i++) {
            e.call("mark", 2, i, i / 2 % 8);
        }
        for (int kind = 0; kind < 6; kind++) {
            e.call("sign", 0, kind, 1);
            e.is(most[kind], "fill", kind, 2);
            e.is(most[kind] - 1, "rowTold", kind, most[kind] - 1, 0);
            e.is(Edges.NONE, "rowTold", kind, most[kind], 0);
            e.is(Edges.FULL, "row", kind, 0, 0);
        }
        e.call("turns", MAP, DOOR);
        e.is(2, "fill", MAP, 2);
        e.is(0, "breaches", 1);
        e.call("sheet", 2, BYTES, 11);
        e.call("turns", MAP, MAP);
        e.is(5, "fill", MAP, 2);
        e.call("sheet", 2, BYTES, 12);
        e.is(6, "fill", MAP, 2);
    }

    private void copyRefused() {
        e.promise(41, "many. BAD; NOTHING; KIND: they are not of one sort; INDEX.");
        e.furnished();
        for (int odd : new int[] {-1, 4, LEAST, GREATEST}) {
            e.refused(BAD, "copy", odd, 0, 1, 0, 1);
            e.refused(BAD, "copy", 1, 0, odd, 0, 1);
            e.refused(BAD, "copy", 0, 0, odd, 0, 1);
            e.refused(BAD, "copy", odd, 0, 0, 0, 1);
            e.refused(BAD, "copy", odd, -1, 1, -1, -1);
        }
        e.refused(NOTHING, "copy", 0, 0, 1, 0, 1);
        e.refused(NOTHING, "copy", 1, 0, 3, 0, 1);
        e.refused(NOTHING, "copy", 0, 0, 3, 0, 0);
        e.refused(NOTHING, "copy", 3, -1, 2, -1, -1);
        e.refused(NOTHING, "copy", 0, 0, 0, 0, 0);
        e.refused(KIND, "copy", 1, 0, 2, 0, 1);
        e.refused(KIND, "copy", 2, 0, 1, 0, 0);
        e.refused(KIND, "copy", 1, -1, 2, 9, -1);
        e.refused(INDEX, "copy", 1, 0, 1, 1, 4);
        e.is(4, "copy", 1, 0, 1, 0, 4);
        e.is(0, "copy", 1, 0, 1, 0, 0);
    }

    private void copyIndex() {
        e.terms(5, "INDEX: there is no such place");
        marked(0, BYTES, 1, 2, 3, 4, 5);
        marked(1, BYTES, 7, 8, 9);
        int[][] odd = {{-1, 0, 1}, {0, -1, 1}, {-1, 0, 0}, {0, -1, 0}, {5, 0, 1}, {0, 3, 1}, {6, 0, 0}, {0, 4, 0}, {0, 0, 4}, {3, 0, 3}, {0, 1, 3}, {0, 0, -1}, {2, 2, -1},
            {LEAST, 0, 1}, {0, LEAST, 1}, {0, 0, LEAST}, {GREATEST, 0, 1}, {0, GREATEST, 1}, {0, 0, GREATEST}, {1, 1, GREATEST}, {GREATEST, GREATEST, GREATEST},
            {LEAST, LEAST, LEAST}, {GREATEST, 0, 0}};
        for (int[] c : odd) {
            e.refused(INDEX, "copy", 0, c[0], 1, c[1], c[2]);
        }
        e.is(3, "copy", 0, 2, 1, 0, 3);
        holds(1, 3, 4, 5);
        e.is(0, "copy", 0, 5, 1, 3, 0);
        e.is(1, "copy", 0, 0, 1, 2, 1);
        holds(1, 3, 4, 1);
        e.is(3, "copy", 1, 0, 0, 2, 3);
        e.refused(INDEX, "copy", 1, 0, 0, 3, 3);
        holds(0, 1, 2, 3, 4, 1);
        e.call("sheet", 2, BYTES, 0);
        e.is(0, "copy", 2, 0, 2, 0, 0);
        e.refused(INDEX, "copy", 2, 0, 0, 0, 1);
    }

    private void copyKind() {
        e.promise(41, "KIND: they are not of one sort");
        marked(0, BYTES, 1, 2);
        marked(1, SHORTS, 300, 400);
        marked(2, SHORTS, -300, 0);
        e.refused(KIND, "copy", 0, 0, 1, 0, 1);
        e.refused(KIND, "copy", 1, 0, 0, 0, 1);
        e.is(2, "copy", 1, 0, 2, 0, 2);
        holds(2, 300, 400);
        e.call("sheet", 1, BYTES, 2);
        e.refused(KIND, "copy", 1, 0, 2, 0, 1);
        e.is(1, "copy", 1, 0, 0, 1, 1);
        holds(0, 1, 0);
    }

    private void copyFromTo() {
        e.promise(41, "(From a SHEET, its place, to a SHEET, its place.)");
        marked(0, BYTES, 1, 2, 3);
        marked(3, BYTES, 7, 8, 9, 10);
        e.is(2, "copy", 0, 1, 3, 2, 2);
        holds(0, 1, 2, 3);
        holds(3, 7, 8, 2, 3);
        e.is(1, "copy", 3, 0, 0, 2, 1);
        holds(0, 1, 2, 7);
        holds(3, 7, 8, 2, 3);
    }

    private void copyOnItself() {
        e.promise(41, "So many places of a SHEET come to another one (or the same), as they were: many.");
        for (int sort = 0; sort < 2; sort++) {
            marked(0, sort, 1, 2, 3, 4, 5);
            e.is(4, "copy", 0, 0, 0, 1, 4);
            holds(0, 1, 1, 2, 3, 4);
            marked(0, sort, 1, 2, 3, 4, 5);
            e.is(4, "copy", 0, 1, 0, 0, 4);
            holds(0, 2, 3, 4, 5, 5);
            e.is(5, "copy", 0, 0, 0, 0, 5);
            holds(0, 2, 3, 4, 5, 5);
        }
    }

    private void layRefused() {
        e.promise(42, "what it held (0 .. 3). BAD: slot, thing, k; NOTHING: that SHEET is MISSING.");
        e.furnished();
        for (int odd : new int[] {-1, 5, LEAST, GREATEST}) {
            for (int thing = 0; thing < 4; thing++) {
                e.refused(BAD, "lay", odd, thing, 1);
            }
        }
        for (int odd : new int[] {-1, 4, LEAST, GREATEST}) {
            e.refused(BAD, "lay", 0, odd, 0);
            e.refused(BAD, "lay", 0, 2, odd);
        }
        for (int odd : new int[] {-1, 6, LEAST, GREATEST}) {
            e.refused(BAD, "lay", 0, 1, odd);
        }
        e.refused(NOTHING, "lay", 0, 2, 0);
        e.refused(NOTHING, "lay", 4, 2, 3);
        e.refused(BAD, "lay", 5, 2, 3);
        e.is(1, "lay", 0, 1, 5);
        e.is(0, "lay", 4, 2, 2);
    }

    private void layThings() {
        e.promise(42, "A SLOT holds: thing 0 nothing, 1 SIGN k, 2 SHEET k, 3 the number k: what it held (0 .. 3).");
        e.furnished();
        int held = 0;
        int[] things = {0, 1, 0, 2, 0, 3, 3, 2, 2, 1, 1, 3, 1, 2, 3, 0};
        for (int thing : things) {
            e.is(held, "lay", 3, thing, 1);
            held = thing;
        }
        for (int k : new int[] {0, LEAST, GREATEST, -1}) {
            e.is(0, "lay", 3, 0, k);
            e.is(0, "lay", 3, 3, k);
            e.is(k % 1000, "rest", 3, 1000);
            e.is(3, "lay", 3, 0, k);
            e.refused(NOTHING, "rest", 3, 1);
        }
    }

    private void slotsAtFirst() {
        e.terms(5, "SLOTS 0 .. 4 each hold nothing (at first)");
        for (int slot = 0; slot < 5; slot++) {
            e.refused(NOTHING, "ask", slot, SIGN);
            e.refused(NOTHING, "item", slot, 0);
            e.refused(NOTHING, "rest", slot, 1);
        }
        for (int slot = 0; slot < 5; slot++) {
            e.is(0, "lay", slot, 3, slot);
        }
        for (int slot = 0; slot < 5; slot++) {
            e.is(slot, "rest", slot, 9);
        }
        e.refused(BAD, "rest", 5, 9);
        e.refused(BAD, "rest", -1, 9);
    }

    private void ask() {
        e.promise(43, "BAD; NOTHING; KIND: it is no SIGN, or not of that KIND, nor of one under it.");
        e.furnished();
        for (int odd : new int[] {-1, 5, LEAST, GREATEST}) {
            e.refused(BAD, "ask", odd, SIGN);
        }
        for (int odd : new int[] {-1, 6, LEAST, GREATEST}) {
            for (int slot = 0; slot < 4; slot++) {
                e.refused(BAD, "ask", slot, odd);
            }
        }
        for (int kind = 0; kind < 6; kind++) {
            e.refused(NOTHING, "ask", 3, kind);
            e.refused(KIND, "ask", 1, kind);
            e.refused(KIND, "ask", 2, kind);
        }
        e.reads(34, "ask", 0, SIGN);
        e.reads(34, "ask", 0, LIGHT);
        e.refused(KIND, "ask", 0, DOOR);
    }

    private void askKinds() {
        e.promise(43, "PRICE of the SIGN in a SLOT, taken for one of a KIND (0 .. 5).");
        e.places(1);
        int[] above = {-1, 0, 0, 1, 2, 0};
        int[] prices = {12, 17, 6, 34, 14, 1};
        for (int kind = 0; kind < 6; kind++) {
            e.call("sign", 0, kind, 1);
            e.call("row", kind, 0, 0);
            e.call("lay", 0, 1, kind);
            for (int asked = 0; asked < 6; asked++) {
                boolean is = asked == kind || asked == above[kind] || asked == SIGN;
                e.is(is ? prices[kind] : KIND, "ask", 0, asked);
            }
        }
    }

    private void item() {
        e.promise(44, "A place of the SHEET in a SLOT. BAD: slot; NOTHING; KIND: it is no SHEET; INDEX.");
        e.furnished();
        e.call("lay", 4, 2, 2);
        for (int odd : new int[] {-1, 5, LEAST, GREATEST}) {
            e.refused(BAD, "item", odd, 0);
            e.refused(BAD, "item", odd, odd);
            e.refused(NOTHING, "item", 3, odd);
            e.refused(KIND, "item", 0, odd);
            e.refused(KIND, "item", 2, odd);
            e.refused(INDEX, "item", 1, odd);
        }
        e.reads(3, "item", 1, 0);
        e.reads(0, "item", 1, 3);
        e.refused(INDEX, "item", 1, 4);
        e.reads(-300, "item", 4, 2);
        e.refused(INDEX, "item", 4, 3);
        e.call("sheet", 3, BYTES, 0);
        e.call("lay", 3, 2, 3);
        e.refused(INDEX, "item", 3, 0);
        e.call("sheet", 3, SHORTS, 24);
        e.call("mark", 3, 23, 6);
        e.call("lay", 3, 2, 3);
        e.reads(6, "item", 3, 23);
        e.refused(INDEX, "item", 3, 24);
    }

    private void rest() {
        e.promise(45, "The rest of the number in a SLOT by n. BAD: slot; NOTHING; KIND: it is no number; NO: n is 0.");
        e.furnished();
        for (int odd : new int[] {-1, 5, LEAST, GREATEST}) {
            e.refused(BAD, "rest", odd, 1);
            e.refused(BAD, "rest", odd, 0);
        }
        for (int n = -1; n <= 1; n++) {
            e.refused(NOTHING, "rest", 3, n);
            e.refused(KIND, "rest", 0, n);
            e.refused(KIND, "rest", 1, n);
            e.refused(n == 0 ? NO : 0, "rest", 2, n);
        }
        int[][] all = {{77, 10, 7}, {77, -10, 7}, {-77, 10, -7}, {-77, -10, -7}, {0, 5, 0}, {LEAST, -1, 0}, {LEAST, LEAST, 0}, {LEAST, 10, -8}, {GREATEST, LEAST, GREATEST},
            {LEAST, GREATEST, -1}, {GREATEST, 1, 0}, {5, 7, 5}};
        for (int[] a : all) {
            e.call("lay", 2, 3, a[0]);
            e.reads(a[2], "rest", 2, a[1]);
            e.refused(NO, "rest", 2, 0);
        }
    }

    private void asItWasThen() {
        e.terms(5, "a SIGN (as it is then, for good), a SHEET (a row of its own, as it was then), or a number.");
        e.furnished();
        e.call("keep");
        e.call("row", 3, 0, 0);
        e.is(34, "ask", 0, LIGHT);
        e.call("turns", 3, DOOR);
        e.is(34, "ask", 0, LIGHT);
        e.is(KIND, "ask", 0, DOOR);
        e.call("lay", 3, 1, 3);
        e.is(7, "ask", 3, DOOR);
        e.call("back");
        e.is(7, "ask", 3, DOOR);
        e.is(34, "ask", 0, LIGHT);
        e.call("mark", 1, 0, 50);
        e.is(3, "item", 1, 0);
        e.call("sheet", 1, SHORTS, 1);
        e.is(0, "item", 1, 3);
        e.is(INDEX, "item", 1, 4);
        e.call("sheet", 1, -1, 0);
        e.is(3, "item", 1, 0);
        e.is(77, "rest", 2, 100);
    }

    private void findings() {
        e.terms(5, "FINDINGS: NOTHING: a SHEET is MISSING, a SLOT holds nothing; INDEX: there is no such place; SIZE: a number of places is below 0; "
            + "KIND: it is none (of a KIND, or another thing).");
        e.furnished();
        e.refused(NOTHING, "mark", 0, 0, 0);
        e.refused(NOTHING, "rest", 4, 1);
        e.refused(INDEX, "mark", 1, 4, 0);
        e.refused(SIZE, "sheet", 1, 0, -1);
        e.refused(KIND, "as", 0, HAND);
        e.refused(KIND, "rest", 0, 1);
        e.call("sheet", 0, 0, 1);
        e.call("lay", 4, 3, 1);
        e.is(0, "mark", 0, 0, 0);
        e.is(0, "rest", 4, 1);
        e.is(0, "mark", 1, 3, 0);
        e.is(0, "sheet", 1, 0, 0);
        e.is(0, "as", 5, HAND);
    }
}
