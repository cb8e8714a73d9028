/** Promises 9 to 17: signs of their kinds, rows, what can be undone. */
public final class SignsTest {
    private static final int BAD = StrangerSigns.BAD, NO = StrangerSigns.NO, FULL = StrangerSigns.FULL, NONE = StrangerSigns.NONE, KIND = StrangerSigns.KIND;
    private static final Due due = new Due();

    public static void main(String[] args) {
        signs();
        kinds();
        prices();
        lit();
        as();
        turns();
        rows();
        dropAndAim();
        undo();
        undoForgets();
        due.end();
    }

    private static void signs() {
        StrangerSigns x = Houses.withPlaces(2);
        due.is("sign at no place", x.sign(2, 0, 0), BAD);
        due.is("sign at place -1", x.sign(-1, 0, 0), BAD);
        due.is("kind 6", x.sign(0, 6, 5), BAD);
        due.is("kind -1", x.sign(0, -1, 5), BAD);
        due.is("a hand for 0 days", x.sign(0, 5, 0), BAD);
        due.is("a hand for 100 days", x.sign(0, 5, 100), BAD);
        due.is("days of others are any", x.sign(1, 0, -7), 0);
        x.hours(48);
        due.is("a hand for 99 days", x.sign(0, 5, 99), 1);
        due.is("until", x.told(1, 8), 101);
        due.is("no until", x.told(0, 8), NONE);
        due.is("place", x.told(0, 0), 1);
        due.is("kind", x.told(1, 1), 5);
        due.is("told what 10", x.told(0, 10), BAD);
        due.is("told what -1", x.told(0, -1), BAD);
        due.is("told sign 2", x.told(2, 0), BAD);
        due.is("told sign -1", x.told(-1, 0), BAD);
        for (int i = 2; i < 14; i++) {
            due.is("sign", x.sign(0, 4, 0), i);
        }
        due.is("BAD ahead of FULL", x.sign(0, 5, 0), BAD);
        due.is("sign 15", x.sign(0, 0, 0), FULL);
        due.is("signs", x.count(3), 14);
    }

    private static void kinds() {
        StrangerSigns x = Houses.withPlaces(1);
        int[] most = {4, 5, 2, 3, 6, 1};
        int[] seen = {3, 5, 1, 5, 1, 6};
        for (int kind = 0; kind < 6; kind++) {
            int sign = x.sign(0, kind, 1);
            due.is("most of kind " + kind, x.told(sign, 3), most[kind]);
            due.is("seen of kind " + kind, x.told(sign, 4), seen[kind]);
            for (int i = 1; i <= most[kind]; i++) {
                due.is("row of kind " + kind, x.row(sign, 0, 0), i);
            }
            due.is("one row too many of kind " + kind, x.row(sign, 0, 0), FULL);
            due.is("rows of kind " + kind, x.told(sign, 2), most[kind]);
            due.is("astray of kind " + kind, x.told(sign, 7), 0);
            due.is("obeyed, kind " + kind, x.told(sign, 9), 1);
        }
        due.is("rows of all", x.count(4), 21);
    }

    private static void prices() {
        StrangerSigns x = Houses.withPlaces(1);
        int[] none = {10, 15, 5, 30, 13, 1};
        int[] one = {12, 17, 6, 34, 14, 1};
        for (int kind = 0; kind < 6; kind++) {
            int sign = x.sign(0, kind, 1);
            due.is("price of kind " + kind, x.told(sign, 5), none[kind]);
            x.row(sign, 0, 0);
            due.is("price of kind " + kind + " with a row", x.told(sign, 5), one[kind]);
        }
    }

    private static void lit() {
        StrangerSigns x = Houses.withPlaces(1);
        for (int kind = 0; kind < 6; kind++) {
            x.sign(0, kind, 1);
            due.is("lit at 8, kind " + kind, x.told(kind, 6), kind == 3 ? 0 : 1);
        }
        x.hours(9);
        due.is("a light at 17", x.told(3, 6), 0);
        x.hours(1);
        due.is("a light at 18", x.told(3, 6), 1);
        x.hours(5);
        due.is("a hand at 23 of its last day", x.told(5, 6), 1);
        x.hours(1);
        due.is("a hand at 0 of the day behind", x.told(5, 6), 0);
        x.hours(5);
        due.is("a light at 5", x.told(3, 6), 1);
        x.hours(1);
        due.is("a light at 6", x.told(3, 6), 0);
    }

    private static void as() {
        StrangerSigns x = Houses.withPlaces(1);
        int[] above = {-1, 0, 0, 1, 2, 0};
        for (int kind = 0; kind < 6; kind++) {
            int sign = x.sign(0, kind, 1);
            x.row(sign, 0, 0);
            for (int asked = 0; asked < 6; asked++) {
                boolean is = asked == kind || asked == above[kind] || asked == 0;
                due.is("kind " + kind + " as " + asked, x.as(sign, asked), is ? 1 : KIND);
            }
        }
        due.is("as kind 6", x.as(0, 6), BAD);
        due.is("as kind -1", x.as(0, -1), BAD);
        due.is("as of sign 6", x.as(6, 0), BAD);
        due.is("as of sign -1", x.as(-1, 0), BAD);
    }

    private static void turns() {
        StrangerSigns x = Houses.withPlaces(1);
        x.sign(0, 4, 0);
        for (int i = 0; i < 6; i++) {
            x.row(0, i, i);
        }
        due.is("turns to a door", x.turns(0, 2), 4);
        due.is("its kind", x.told(0, 1), 2);
        due.is("its rows stay", x.told(0, 2), 6);
        due.is("its price", x.told(0, 5), 11);
        due.is("it is full", x.row(0, 0, 0), FULL);
        due.is("to the same kind", x.turns(0, 2), 2);
        due.is("to a hand", x.turns(0, 5), BAD);
        due.is("to kind -1", x.turns(0, -1), BAD);
        due.is("sign 1", x.turns(1, 0), BAD);
        x.sign(0, 5, 1);
        due.is("a hand turns", x.turns(1, 0), NO);
        due.is("BAD ahead of NO", x.turns(1, 5), BAD);
        due.is("it is still a hand", x.told(1, 1), 5);
        due.is("turning back", x.turns(0, 4), 2);
        due.is("the last row is there", x.rowTold(0, 5, 0), 5);
    }

    private static void rows() {
        StrangerSigns x = Houses.withPlaces(1);
        x.sign(0, 5, 1);
        due.is("name 14", x.row(0, 14, 0), BAD);
        due.is("name -1", x.row(0, -1, 0), BAD);
        due.is("arrow 8", x.row(0, 0, 8), BAD);
        due.is("arrow -1", x.row(0, 0, -1), BAD);
        due.is("sign 1", x.row(1, 0, 0), BAD);
        due.is("sign -1", x.row(-1, 0, 0), BAD);
        due.is("a goal that is not there", x.row(0, 9, 7), 1);
        due.is("BAD ahead of FULL", x.row(0, 0, 8), BAD);
        due.is("its name", x.rowTold(0, 0, 0), 9);
        due.is("its arrow", x.rowTold(0, 0, 1), 7);
        due.is("row 1", x.rowTold(0, 1, 0), NONE);
        due.is("row -1", x.rowTold(0, -1, 0), NONE);
        due.is("what 2", x.rowTold(0, 0, 2), BAD);
        due.is("BAD ahead of NONE", x.rowTold(0, 9, -1), BAD);
        due.is("rowTold of sign 1", x.rowTold(1, 0, 0), BAD);
        due.is("only one change", x.count(7), 1);
    }

    private static void dropAndAim() {
        StrangerSigns x = Houses.withPlaces(1);
        x.sign(0, 0, 0);
        for (int i = 0; i < 4; i++) {
            x.row(0, 10 + i, i);
        }
        due.is("drop row 4", x.drop(0, 4), BAD);
        due.is("drop row -1", x.drop(0, -1), BAD);
        due.is("drop of sign 1", x.drop(1, 0), BAD);
        due.is("drop", x.drop(0, 1), 3);
        due.is("ahead of it", x.rowTold(0, 0, 0), 10);
        due.is("behind it", x.rowTold(0, 1, 0), 12);
        due.is("its arrow", x.rowTold(0, 1, 1), 2);
        due.is("the last", x.rowTold(0, 2, 0), 13);
        due.is("no fourth", x.rowTold(0, 3, 0), NONE);
        due.is("aim", x.aim(0, 2, 7), 3);
        due.is("aimed", x.rowTold(0, 2, 1), 7);
        due.is("aim at the same", x.aim(0, 2, 7), 7);
        due.is("aim row 3", x.aim(0, 3, 0), BAD);
        due.is("aim row -1", x.aim(0, -1, 0), BAD);
        due.is("aim at 8", x.aim(0, 0, 8), BAD);
        due.is("aim at -1", x.aim(0, 0, -1), BAD);
        due.is("aim of sign 1", x.aim(1, 0, 0), BAD);
        due.is("changes", x.count(7), 7);
    }

    private static void undo() {
        StrangerSigns x = Houses.withPlaces(1);
        x.sign(0, 4, 0);
        x.sign(0, 4, 0);
        due.is("none can", x.undo(), NO);
        x.row(0, 1, 1);
        for (int i = 0; i < 6; i++) {
            x.row(1, i, i);
        }
        for (int i = 0; i < 10; i++) {
            x.aim(0, 0, i % 8);
        }
        due.is("16 at most", x.count(7), 16);
        for (int i = 15; i >= 6; i--) {
            due.is("undo", x.undo(), i);
        }
        due.is("the arrow as it was", x.rowTold(0, 0, 1), 1);
        for (int i = 5; i >= 0; i--) {
            due.is("undo", x.undo(), i);
            due.is("rows", x.told(1, 2), i);
        }
        due.is("no more", x.undo(), NO);
        due.is("the first row stays", x.told(0, 2), 1);
        x.row(1, 3, 3);
        x.turns(1, 0);
        due.is("undo behind turns", x.undo(), 0);
        due.is("the kind stays", x.told(1, 1), 0);
    }

    private static void undoForgets() {
        StrangerSigns x = Houses.withPlaces(1);
        x.sign(0, 0, 0);
        x.row(0, 0, 0);
        x.row(0, 9, 9);
        due.is("what is refused is no change", x.count(7), 1);
        x.mend(0);
        due.is("mending nothing is a change", x.count(7), 2);
        x.sign(1, 0, 0);
        due.is("a sign that is refused", x.count(7), 2);
        x.keep();
        due.is("keeping leaves it", x.count(7), 2);
        x.sign(0, 0, 0);
        due.is("a sign ends it", x.undo(), NO);
        x.row(0, 0, 0);
        x.back();
        due.is("the image ends it", x.undo(), NO);
    }
}
