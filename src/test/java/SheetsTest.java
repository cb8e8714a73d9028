/** Promises 38 to 45: sheets and slots. */
public final class SheetsTest {
    private static final int BAD = StrangerSigns.BAD, NO = StrangerSigns.NO, NOTHING = StrangerSigns.NOTHING;
    private static final int KIND = StrangerSigns.KIND, INDEX = StrangerSigns.INDEX, SIZE = StrangerSigns.SIZE;
    private static final Due due = new Due();

    public static void main(String[] args) {
        sheet();
        mark();
        fill();
        fillUpToMost();
        copy();
        copyRefused();
        lay();
        ask();
        item();
        rest();
        due.end();
    }

    private static void sheet() {
        StrangerSigns x = new StrangerSigns();
        due.is("of bytes", x.sheet(0, 0, 24), 24);
        due.is("of shorts", x.sheet(3, 1, 0), 0);
        due.is("sheet 4", x.sheet(4, 0, 1), BAD);
        due.is("sheet -1", x.sheet(-1, 0, 1), BAD);
        due.is("sort 2", x.sheet(0, 2, 1), BAD);
        due.is("sort -2", x.sheet(0, -2, 1), BAD);
        due.is("25 places", x.sheet(0, 0, 25), BAD);
        due.is("-1 places", x.sheet(0, 0, -1), SIZE);
        due.is("BAD ahead of SIZE", x.sheet(4, 0, -1), BAD);
        x.mark(0, 23, 5);
        due.is("it is as before", x.mark(0, 23, 6), 5);
        due.is("anew", x.sheet(0, 0, 24), 24);
        due.is("all 0", x.mark(0, 23, 6), 0);
        due.is("missing, n any", x.sheet(0, -1, 99), 0);
        due.is("missing, n below 0", x.sheet(1, -1, -99), 0);
        due.is("it is missing", x.mark(0, 0, 0), NOTHING);
        due.is("BAD ahead of it", x.sheet(4, -1, 0), BAD);
    }

    private static void mark() {
        StrangerSigns x = new StrangerSigns();
        x.sheet(0, 0, 2);
        x.sheet(1, 1, 2);
        int[] given = {127, 128, 255, 256, -1, 32767, 32768, 65535, 65536 + 5, Integer.MIN_VALUE, Integer.MAX_VALUE};
        for (int v : given) {
            x.mark(0, 1, v);
            due.is("a byte of " + v, x.mark(0, 1, 0), (byte) v);
            x.mark(1, 0, v);
            due.is("a short of " + v, x.mark(1, 0, 0), (short) v);
        }
        due.is("place 2", x.mark(0, 2, 0), INDEX);
        due.is("place -1", x.mark(0, -1, 0), INDEX);
        due.is("sheet 4", x.mark(4, 0, 0), BAD);
        due.is("sheet -1", x.mark(-1, 0, 0), BAD);
        due.is("NOTHING ahead of INDEX", x.mark(2, -1, 0), NOTHING);
        x.sheet(2, 0, 0);
        due.is("no places at all", x.mark(2, 0, 0), INDEX);
    }

    private static void marked(StrangerSigns x, int sheet, int... cells) {
        x.sheet(sheet, 0, cells.length);
        for (int i = 0; i < cells.length; i++) {
            x.mark(sheet, i, cells[i]);
        }
    }

    private static void fill() {
        StrangerSigns x = Houses.withPlaces(1);
        x.sign(0, 0, 0);
        x.row(0, 5, 5);
        marked(x, 0, 13, 7, 0, 0, 9);
        due.is("one of two is missing", x.fill(0, 0), 2);
        due.is("the first name", x.rowTold(0, 0, 0), 13);
        due.is("the first arrow", x.rowTold(0, 0, 1), 7);
        due.is("the second name", x.rowTold(0, 1, 0), 0);
        due.is("a change", x.undo(), 1);
        due.is("the rows as they were", x.rowTold(0, 0, 0), 5);
        int[][] odd = {{14, 0}, {-1, 0}, {0, 8}, {0, -1}};
        for (int[] two : odd) {
            marked(x, 0, 1, 1, two[0], two[1], 1, 1);
            due.is("not as told: " + two[0] + " " + two[1], x.fill(0, 0), 1);
        }
        marked(x, 0);
        due.is("no places", x.fill(0, 0), 0);
        due.is("no rows", x.told(0, 2), 0);
        due.is("each is a change", x.count(7), 6);
        due.is("sign 1", x.fill(1, 0), BAD);
        due.is("sign -1", x.fill(-1, 0), BAD);
        due.is("sheet 4", x.fill(0, 4), BAD);
        due.is("sheet -1", x.fill(0, -1), BAD);
        due.is("missing", x.fill(0, 1), NOTHING);
        due.is("BAD ahead of NOTHING", x.fill(1, 1), BAD);
        due.is("no change of these", x.count(7), 6);
    }

    private static void fillUpToMost() {
        StrangerSigns x = Houses.withPlaces(1);
        int[] most = {4, 5, 2, 3, 6, 1};
        x.sheet(2, 1, 24);
        for (int i = 0; i < 24; i++) {
            x.mark(2, i, i / 2 % 8);
        }
        for (int kind = 0; kind < 6; kind++) {
            x.sign(0, kind, 1);
            due.is("of kind " + kind, x.fill(kind, 2), most[kind]);
            due.is("its last row", x.rowTold(kind, most[kind] - 1, 1), most[kind] - 1);
        }
        x.turns(4, 2);
        due.is("of a map that is a door now", x.fill(4, 2), 2);
    }

    private static void copy() {
        StrangerSigns x = new StrangerSigns();
        marked(x, 0, 1, 2, 3, 4, 5);
        marked(x, 1, 9, 9, 9);
        due.is("to another", x.copy(0, 3, 1, 1, 2), 2);
        int[] other = {9, 4, 5};
        for (int i = 0; i < 3; i++) {
            due.is("there", x.mark(1, i, 0), other[i]);
        }
        due.is("forwards on itself", x.copy(0, 0, 0, 1, 4), 4);
        int[] forwards = {1, 1, 2, 3, 4};
        for (int i = 0; i < 5; i++) {
            due.is("forwards " + i, x.mark(0, i, i), forwards[i]);
        }
        due.is("backwards on itself", x.copy(0, 2, 0, 0, 3), 3);
        int[] backwards = {2, 3, 4, 3, 4};
        for (int i = 0; i < 5; i++) {
            due.is("backwards " + i, x.mark(0, i, 0), backwards[i]);
        }
        due.is("none, from the end", x.copy(0, 5, 1, 3, 0), 0);
    }

    private static void copyRefused() {
        StrangerSigns x = new StrangerSigns();
        x.sheet(0, 0, 5);
        x.sheet(1, 0, 3);
        x.sheet(2, 1, 5);
        int[][] index = {{0, -1, 1, 0, 1}, {0, 0, 1, -1, 1}, {0, 5, 1, 0, 1}, {0, 0, 1, 3, 1}, {0, 0, 1, 0, 4}, {1, 0, 0, 0, 4},
            {0, 0, 1, 0, -1}, {0, 6, 1, 0, 0}, {0, 0, 1, 4, 0}, {0, Integer.MAX_VALUE, 1, 0, Integer.MAX_VALUE}, {0, 1, 1, 1, Integer.MAX_VALUE}};
        for (int[] a : index) {
            due.is("copy " + a[1] + " " + a[3] + " " + a[4], x.copy(a[0], a[1], a[2], a[3], a[4]), INDEX);
        }
        due.is("of another sort", x.copy(0, 0, 2, 0, 1), KIND);
        due.is("KIND ahead of INDEX", x.copy(2, -1, 0, 0, 1), KIND);
        due.is("from a missing one", x.copy(3, 0, 0, 0, 1), NOTHING);
        due.is("to a missing one, ahead of INDEX", x.copy(0, 9, 3, 0, 1), NOTHING);
        due.is("from 4", x.copy(4, 0, 0, 0, 1), BAD);
        due.is("from -1", x.copy(-1, 0, 0, 0, 1), BAD);
        due.is("to 4, ahead of NOTHING", x.copy(3, 0, 4, 0, 1), BAD);
        due.is("to -1", x.copy(0, 0, -1, 0, 1), BAD);
    }

    private static void lay() {
        StrangerSigns x = Houses.withPlaces(1);
        x.sign(0, 0, 0);
        x.sheet(1, 0, 1);
        due.is("a number", x.lay(0, 3, Integer.MIN_VALUE), 0);
        due.is("a sheet", x.lay(0, 2, 1), 3);
        due.is("a sign", x.lay(0, 1, 0), 2);
        due.is("nothing, k any", x.lay(0, 0, 99), 1);
        due.is("nothing again", x.lay(0, 0, -99), 0);
        due.is("slot 5", x.lay(5, 0, 0), BAD);
        due.is("slot -1", x.lay(-1, 0, 0), BAD);
        due.is("thing 4", x.lay(0, 4, 0), BAD);
        due.is("thing -1", x.lay(0, -1, 0), BAD);
        due.is("sign 1", x.lay(0, 1, 1), BAD);
        due.is("sign -1", x.lay(0, 1, -1), BAD);
        due.is("sheet 4", x.lay(0, 2, 4), BAD);
        due.is("sheet -1", x.lay(0, 2, -1), BAD);
        due.is("a missing sheet", x.lay(0, 2, 0), NOTHING);
        due.is("nothing came of these", x.lay(4, 0, 0), 0);
        due.is("nor there", x.ask(0, 0), NOTHING);
    }

    private static void ask() {
        StrangerSigns x = Houses.withPlaces(1);
        x.sign(0, 3, 0);
        x.row(0, 0, 0);
        x.lay(0, 1, 0);
        due.is("a light for a sign", x.ask(0, 0), 34);
        due.is("a light for an over", x.ask(0, 1), 34);
        due.is("a light for a light", x.ask(0, 3), 34);
        due.is("a light for a door", x.ask(0, 2), KIND);
        due.is("a light for a map", x.ask(0, 4), KIND);
        due.is("a light for a hand", x.ask(0, 5), KIND);
        x.row(0, 0, 0);
        x.turns(0, 4);
        due.is("as it was then", x.ask(0, 3), 34);
        x.lay(1, 1, 0);
        due.is("as it is now", x.ask(1, 2), 15);
        due.is("no more a light", x.ask(1, 3), KIND);
        due.is("kind 6", x.ask(0, 6), BAD);
        due.is("kind -1", x.ask(0, -1), BAD);
        due.is("slot 5", x.ask(5, 0), BAD);
        due.is("slot -1", x.ask(-1, 0), BAD);
        due.is("nothing", x.ask(2, 0), NOTHING);
        x.lay(2, 3, 0);
        due.is("a number", x.ask(2, 0), KIND);
        x.keep();
        x.lay(1, 3, 5);
        x.back();
        due.is("slots are not in the image", x.rest(1, 3), 2);
    }

    private static void item() {
        StrangerSigns x = Houses.withPlaces(1);
        marked(x, 0, 7, -8);
        x.lay(0, 2, 0);
        x.mark(0, 0, 99);
        due.is("as it was then", x.item(0, 0), 7);
        due.is("below 0", x.item(0, 1), -8);
        x.sheet(0, -1, 0);
        due.is("though it is missing now", x.item(0, 0), 7);
        due.is("place 2", x.item(0, 2), INDEX);
        due.is("place -1", x.item(0, -1), INDEX);
        due.is("slot 5", x.item(5, 0), BAD);
        due.is("slot -1", x.item(-1, 0), BAD);
        due.is("nothing", x.item(1, 0), NOTHING);
        x.lay(1, 3, 0);
        due.is("a number", x.item(1, 0), KIND);
        x.sign(0, 0, 0);
        x.lay(1, 1, 0);
        due.is("a sign, ahead of INDEX", x.item(1, -1), KIND);
    }

    private static void rest() {
        StrangerSigns x = Houses.withPlaces(1);
        x.lay(0, 3, 17);
        due.is("17 by 5", x.rest(0, 5), 2);
        due.is("17 by -5", x.rest(0, -5), 2);
        x.lay(0, 3, Integer.MIN_VALUE);
        due.is("the least by -1", x.rest(0, -1), 0);
        due.is("the least by 10", x.rest(0, 10), -8);
        due.is("by 0", x.rest(0, 0), NO);
        due.is("slot 5", x.rest(5, 1), BAD);
        due.is("slot -1", x.rest(-1, 1), BAD);
        due.is("nothing, ahead of NO", x.rest(1, 0), NOTHING);
        x.sheet(0, 0, 1);
        x.lay(1, 2, 0);
        due.is("a sheet, ahead of NO", x.rest(1, 0), KIND);
    }
}
