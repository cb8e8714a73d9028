/** Promises 27 to 34: breaches, needs, wrong rows, the fewest. */
public final class LawsTest {
    private static final int BAD = StrangerSigns.BAD, NO = StrangerSigns.NO, FULL = StrangerSigns.FULL, NONE = StrangerSigns.NONE;
    private static final Due due = new Due();

    public static void main(String[] args) {
        beyondMost();
        quarrels();
        noWay();
        dropped();
        droppedGroups();
        orderOfBreaches();
        needs();
        wrong();
        wrongGroups();
        mend();
        choose();
        fewest();
        fewestOfSeveral();
        due.end();
    }

    private static void counted(StrangerSigns x, int... want) {
        int all = 0;
        for (int which = 1; which <= 4; which++) {
            due.is("breaches " + which, x.breaches(which), want[which - 1]);
            all += want[which - 1];
        }
        due.is("breaches of all", x.breaches(0), all);
        due.is("behind the last", x.breach(all, 0), NONE);
    }

    private static void beyondMost() {
        StrangerSigns x = Houses.corridor(2);
        x.sign(0, 4, 0);
        for (int i = 0; i < 6; i++) {
            x.row(0, i, 0);
        }
        counted(x, 0, 0, 0, 0);
        x.turns(0, 0);
        counted(x, 2, 0, 0, 0);
        due.is("the first", x.breach(0, 1), 4);
        due.is("the second", x.breach(1, 1), 5);
        x.turns(0, 2);
        counted(x, 4, 0, 0, 0);
        due.is("which 5", x.breaches(5), BAD);
        due.is("which -1", x.breaches(-1), BAD);
        due.is("what 3", x.breach(0, 3), BAD);
        due.is("what -1", x.breach(0, -1), BAD);
        due.is("breach -1", x.breach(-1, 0), BAD);
        due.is("BAD ahead of NONE", x.breach(99, 3), BAD);
    }

    private static void quarrels() {
        StrangerSigns x = Houses.star();
        x.sign(0, 0, 0);
        x.sign(1, 0, 0);
        x.sign(0, 3, 0);
        x.row(0, 3, 0);
        x.row(0, 3, 0);
        counted(x, 0, 0, 0, 0);
        x.row(0, 3, 2);
        counted(x, 0, 1, 0, 0);
        x.row(1, 3, 4);
        counted(x, 0, 1, 0, 0);
        x.row(2, 3, 0);
        counted(x, 0, 2, 0, 0);
        due.is("the lesser sign is not to blame", x.breach(0, 1), 2);
        due.is("the light is, though it is off", x.breach(1, 0), 2);
        due.is("which", x.breach(1, 2), 2);
        x.row(2, 4, 6);
        counted(x, 0, 2, 0, 0);
    }

    private static void noWay() {
        StrangerSigns x = Houses.star();
        x.sign(1, 0, 0);
        x.row(0, 2, 0);
        counted(x, 0, 0, 1, 0);
        x.aim(0, 0, 4);
        counted(x, 0, 0, 0, 1);
        x.shut(0, true);
        counted(x, 0, 0, 0, 1);
    }

    private static void dropped() {
        StrangerSigns x = Houses.star();
        x.sign(1, 0, 0);
        x.row(0, 0, 4);
        counted(x, 0, 0, 0, 1);
        x.goal(0, 1);
        counted(x, 0, 0, 0, 0);
        x.goal(2, 1);
        x.row(0, 1, 4);
        counted(x, 0, 0, 0, 1);
        x.sign(0, 3, 0);
        x.row(1, 0, 0);
        counted(x, 0, 0, 0, 1);
        x.row(1, 11, 2);
        counted(x, 0, 0, 0, 0);
        x.drop(1, 1);
        x.row(1, 1, 2);
        counted(x, 0, 0, 0, 0);
        StrangerSigns two = Houses.corridor(3);
        two.sign(0, 0, 0);
        two.row(0, 0, 0);
        counted(two, 0, 0, 0, 0);
        two.way(1, 2, 2, 1);
        counted(two, 0, 0, 0, 1);
    }

    private static void droppedGroups() {
        StrangerSigns x = Houses.star();
        x.goal(2, 0);
        x.goal(3, -1);
        x.sign(1, 0, 0);
        x.sign(0, 0, 0);
        x.row(0, 10, 4);
        counted(x, 0, 0, 0, 1);
        x.row(1, 1, 4);
        x.row(1, 11, 4);
        x.row(1, 9, 4);
        counted(x, 0, 0, 0, 1);
        x.row(1, 0, 4);
        counted(x, 0, 0, 0, 0);
        x.drop(1, 3);
        x.row(1, 10, 4);
        counted(x, 0, 0, 0, 0);
        x.drop(1, 3);
        x.goal(0, 0);
        counted(x, 0, 0, 0, 0);
        x.row(0, 8, 4);
        counted(x, 0, 0, 0, 1);
        x.row(0, 13, 4);
        counted(x, 0, 0, 0, 2);
    }

    private static void orderOfBreaches() {
        StrangerSigns x = Houses.star();
        x.sign(1, 4, 0);
        x.row(0, 5, 0);
        x.row(0, 6, 4);
        x.row(0, 5, 4);
        x.row(0, 5, 1);
        x.turns(0, 2);
        int[][] want = {{0, 0, 3}, {0, 1, 4}, {0, 2, 1}, {0, 2, 2}, {0, 2, 4}, {0, 3, 1}, {0, 3, 2}, {0, 3, 3}};
        for (int i = 0; i < want.length; i++) {
            for (int what = 0; what < 3; what++) {
                due.is("breach " + i + " what " + what, x.breach(i, what), want[i][what]);
            }
        }
        counted(x, 2, 2, 2, 2);
    }

    private static void needs() {
        StrangerSigns x = Houses.star();
        due.is("no goals", x.needs(0, 0), 0);
        x.goal(1, 0);
        x.goal(2, 0);
        x.goal(2, 1);
        x.goal(3, -1);
        x.goal(3, -1);
        x.goal(4, 1);
        due.is("from the middle", x.needs(0, 0), 6);
        due.is("from place 1", x.needs(1, 0), 4);
        due.is("from place 2", x.needs(2, 0), 4);
        due.is("from place 3", x.needs(3, 0), 2);
        x.shut(1, true);
        due.is("some can't be come to", x.needs(0, 0), 4);
        x.goal(1, 0);
        due.is("two of a group that go together", x.needs(0, 0), 4);
        due.is("place 5", x.needs(5, 0), BAD);
        due.is("place -1", x.needs(-1, 0), BAD);
        due.is("wheels 2", x.needs(0, 2), BAD);
        due.is("wheels -1", x.needs(0, -1), BAD);
    }

    private static void wrong() {
        StrangerSigns x = Houses.star();
        x.goal(1, -1);
        x.goal(0, -1);
        x.sign(0, 4, 0);
        x.row(0, 0, 0);
        due.is("right", x.wrong(0), 0);
        x.row(0, 0, 2);
        x.row(0, 1, 2);
        x.row(0, 7, 2);
        x.row(0, 12, 2);
        due.is("one is wrong", x.wrong(0), 1);
        x.shut(0, true);
        due.is("a goal that can't be come to", x.wrong(0), 0);
        due.is("wheels 2", x.wrong(2), BAD);
        due.is("wheels -1", x.wrong(-1), BAD);
    }

    private static void wrongGroups() {
        StrangerSigns x = Houses.star();
        x.goal(0, 3);
        x.goal(4, 3);
        x.goal(3, 3);
        x.sign(0, 0, 0);
        x.row(0, 13, 6);
        due.is("a nearer one", x.wrong(0), 1);
        x.aim(0, 0, 4);
        due.is("the nearest with a next", x.wrong(0), 0);
        StrangerSigns y = Houses.withPlaces(3);
        y.way(0, 1, 5, 4);
        y.way(0, 2, 3, 4);
        y.goal(1, 0);
        y.goal(2, 0);
        y.sign(0, 0, 0);
        y.row(0, 10, 3);
        due.is("of several the least number", y.wrong(0), 1);
        y.mend(0);
        due.is("its arrow", y.rowTold(0, 0, 1), 5);
    }

    private static void mend() {
        StrangerSigns x = Houses.withPlaces(3);
        x.way(0, 1, 0, 101);
        x.way(0, 2, 2, 1);
        x.way(2, 1, 7, 5);
        x.goal(1, -1);
        x.sign(0, 0, 0);
        x.row(0, 0, 5);
        x.row(0, 0, 2);
        x.row(0, 3, 5);
        due.is("for wheels one is wrong", x.wrong(1), 1);
        due.is("without two are", x.wrong(0), 2);
        due.is("mended", x.mend(0), 2);
        due.is("none is wrong", x.wrong(0), 0);
        due.is("the first", x.rowTold(0, 0, 1), 0);
        due.is("the second", x.rowTold(0, 1, 1), 0);
        due.is("the third stays", x.rowTold(0, 2, 1), 5);
        due.is("one change", x.undo(), 3);
        due.is("the first as it was", x.rowTold(0, 0, 1), 5);
        due.is("the second as it was", x.rowTold(0, 1, 1), 2);
        due.is("wheels 2", x.mend(2), BAD);
        due.is("wheels -1", x.mend(-1), BAD);
        due.is("no change of that", x.count(7), 3);
    }

    private static void choose() {
        StrangerSigns x = Houses.withPlaces(8);
        due.is("place 8", x.choose(8), BAD);
        due.is("place -1", x.choose(-1), BAD);
        for (int i = 0; i < 6; i++) {
            due.is("choose", x.choose(7 - i), i + 1);
        }
        due.is("NO ahead of FULL", x.choose(7), NO);
        due.is("the seventh", x.choose(0), FULL);
        due.is("told", x.count(6), 6);
        due.is("clear", x.clear(), 6);
        due.is("clear again", x.clear(), 0);
        due.is("from the beginning", x.choose(7), 1);
    }

    private static void fewest() {
        StrangerSigns x = Houses.star();
        x.goal(1, -1);
        x.goal(0, -1);
        due.is("no place is told", x.fewest(0, 0), NONE);
        x.choose(1);
        x.choose(2);
        due.is("these do not do", x.fewest(0, 0), NONE);
        x.choose(0);
        due.is("the middle does", x.fewest(0, 0), 4);
        due.is("all come to the middle", x.fewest(1, 0), 0);
        due.is("goal 2", x.fewest(2, 0), BAD);
        due.is("goal -1", x.fewest(-1, 0), BAD);
        due.is("wheels 2", x.fewest(0, 2), BAD);
        due.is("wheels -1", x.fewest(0, -1), BAD);
        x.sign(0, 5, 9);
        x.row(0, 0, 2);
        due.is("it is read ahead of all others", x.fewest(0, 0), 4);
        Houses.text(x, "obey 0");
        due.is("all obey it", x.fewest(0, 0), 4);
        due.is("no row came of it", x.count(4), 1);
        due.is("a walk as before", x.walk(0, 0, 0, 0), 2);
        for (int way = 0; way < 4; way++) {
            x.shut(way, true);
        }
        due.is("none can come there", x.fewest(0, 0), 0);
    }

    /** Two ways lead on from each of three places: each needs a sign. */
    private static void fewestOfSeveral() {
        StrangerSigns x = Houses.corridor(4);
        x.way(1, 0, 6, 1);
        x.way(2, 3, 2, 1);
        x.goal(3, -1);
        x.choose(0);
        x.choose(1);
        x.choose(2);
        x.choose(3);
        due.is("the fewest", x.fewest(0, 0), 7);
        due.is("with wheels", x.fewest(0, 1), 7);
        StrangerSigns y = Houses.corridor(3);
        y.goal(2, -1);
        y.sign(0, 0, 0);
        y.row(0, 0, 3);
        y.sign(1, 0, 0);
        y.row(1, 0, 0);
        y.choose(1);
        y.choose(0);
        due.is("the wrong sign is overruled", y.fewest(0, 0), 2);
        StrangerSigns ring = Houses.withPlaces(3);
        ring.way(0, 1, 0, 1);
        ring.way(0, 2, 1, 1);
        ring.way(1, 2, 3, 1);
        ring.goal(2, -1);
        ring.sign(0, 0, 0);
        ring.sign(1, 0, 0);
        ring.row(0, 0, 0);
        ring.row(1, 0, 4);
        ring.choose(2);
        ring.choose(1);
        ring.choose(0);
        due.is("the least as bits", ring.fewest(0, 0), 2);
    }
}
