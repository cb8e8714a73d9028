/** Promises 23 to 26: walks by signs, the least minutes. */
public final class WalksTest {
    private static final int BAD = StrangerSigns.BAD, NONE = StrangerSigns.NONE;
    private static final int ARRIVED = 1, LOST = 2, SENT_ROUND = 3;
    private static final Due due = new Due();

    public static void main(String[] args) {
        straightOn();
        onlyWay();
        lostBySign();
        readingOrder();
        goalAheadOfGroup();
        unlitAndDisobeyed();
        sentRound();
        sentRoundThroughTheStart();
        wheels();
        refused();
        far();
        farRefused();
        due.end();
    }

    private static void walked(StrangerSigns x, int place, int goal, int... want) {
        for (int what = 0; what < want.length; what++) {
            due.is("walk " + place + " " + goal + " what " + what, x.walk(place, goal, 0, what), want[what]);
        }
    }

    private static void straightOn() {
        StrangerSigns x = Houses.corridor(4);
        x.way(2, 0, 2, 9);
        x.goal(3, -1);
        x.sign(0, 0, 0);
        x.row(0, 0, 0);
        walked(x, 0, 0, ARRIVED, 3, 3, 3, 0);
        walked(x, 3, 0, ARRIVED, 0, 3, 0, NONE);
        int[] via = {0, 1, 2, 3, NONE};
        for (int i = 0; i < via.length; i++) {
            due.is("via " + i, x.via(0, 0, 0, i), via[i]);
        }
        due.is("via far beyond", x.via(0, 0, 0, Integer.MAX_VALUE), NONE);
        due.is("via -1", x.via(0, 0, 0, -1), BAD);
        due.is("via of no walk at all", x.via(3, 0, 0, 1), NONE);
        x.shut(2, true);
        walked(x, 0, 0, SENT_ROUND, 12, 1, 4, 0);
    }

    private static void onlyWay() {
        StrangerSigns x = Houses.withPlaces(4);
        x.way(0, 1, 0, 2);
        x.way(1, 2, 2, 3);
        x.goal(2, -1);
        walked(x, 0, 0, ARRIVED, 5, 2, 2, NONE);
        x.way(1, 3, 6, 1);
        walked(x, 0, 0, LOST, 2, 1, 1, NONE);
        walked(x, 1, 0, LOST, 0, 1, 0, NONE);
        x.shut(2, true);
        walked(x, 0, 0, ARRIVED, 5, 2, 2, NONE);
        walked(x, 3, 0, LOST, 0, 3, 0, NONE);
        x.shut(1, true);
        walked(x, 0, 0, LOST, 2, 1, 1, NONE);
        walked(x, 1, 0, LOST, 2, 0, 1, NONE);
    }

    private static void lostBySign() {
        StrangerSigns x = Houses.corridor(3);
        x.goal(2, -1);
        x.sign(1, 0, 0);
        x.row(0, 0, 3);
        walked(x, 0, 0, LOST, 1, 1, 1, 0);
        x.row(0, 0, 0);
        walked(x, 0, 0, LOST, 1, 1, 1, 0);
        x.drop(0, 0);
        walked(x, 0, 0, ARRIVED, 2, 2, 2, 0);
    }

    private static void readingOrder() {
        StrangerSigns x = Houses.star();
        x.goal(3, 0);
        x.hours(11);
        int[] kinds = {2, 4, 0, 0, 3, 1, 5};
        for (int i = 0; i < kinds.length; i++) {
            x.sign(0, kinds[i], 3);
        }
        int[] order = {1, 0, 3, 2, 5, 4, 6};
        for (int sign : order) {
            x.row(sign, 0, 0);
            due.is("each is read ahead of those before it", x.walk(0, 0, 0, 4), sign);
        }
    }

    private static void goalAheadOfGroup() {
        StrangerSigns x = Houses.star();
        x.goal(1, 2);
        x.goal(2, -1);
        x.sign(0, 5, 3);
        x.sign(0, 2, 0);
        x.row(0, 12, 2);
        walked(x, 0, 0, LOST, 2, 2, 1, 0);
        walked(x, 0, 1, LOST, 0, 0, 0, NONE);
        x.row(1, 0, 0);
        walked(x, 0, 0, ARRIVED, 1, 1, 1, 1);
        x.drop(1, 0);
        x.row(1, 12, 0);
        walked(x, 0, 0, LOST, 2, 2, 1, 0);
    }

    private static void unlitAndDisobeyed() {
        StrangerSigns x = Houses.star();
        x.goal(1, -1);
        x.sign(0, 3, 0);
        x.sign(0, 0, 0);
        x.row(0, 0, 0);
        x.row(1, 0, 2);
        due.is("a light that is off", x.walk(0, 0, 0, 4), 1);
        x.hours(10);
        due.is("a light that is on", x.walk(0, 0, 0, 4), 0);
        Houses.text(x, "obey k=0");
        due.is("a light that is not obeyed", x.walk(0, 0, 0, 4), 1);
        Houses.text(x, "obey 0");
        due.is("none is obeyed", x.walk(0, 0, 0, 4), NONE);
        due.is("lost then", x.walk(0, 0, 0, 0), LOST);
    }

    private static void sentRound() {
        StrangerSigns x = Houses.corridor(3);
        x.goal(2, -1);
        x.sign(1, 0, 0);
        x.sign(0, 0, 0);
        x.row(0, 0, 4);
        x.row(1, 0, 0);
        walked(x, 0, 0, SENT_ROUND, 3, 1, 3, 1);
        int[] via = {0, 1, 0, 1, NONE};
        for (int i = 0; i < via.length; i++) {
            due.is("via " + i, x.via(0, 0, 0, i), via[i]);
        }
        walked(x, 1, 0, SENT_ROUND, 3, 0, 3, 0);
        walked(x, 2, 0, ARRIVED, 0, 2, 0, NONE);
    }

    /** Who begins at a place has not come to it: they come there once more ahead of being sent round. */
    private static void sentRoundThroughTheStart() {
        StrangerSigns x = Houses.withPlaces(4);
        x.way(0, 1, 0, 1);
        x.way(1, 2, 2, 1);
        x.way(2, 0, 5, 1);
        x.goal(3, -1);
        x.sign(0, 0, 0);
        x.row(0, 0, 0);
        walked(x, 0, 0, SENT_ROUND, 4, 1, 4, 0);
    }

    private static void wheels() {
        StrangerSigns x = Houses.withPlaces(3);
        x.way(0, 1, 0, 103);
        x.way(0, 2, 2, 204);
        x.way(2, 1, 7, 5);
        x.goal(1, -1);
        due.is("without wheels there are two ways", x.walk(0, 0, 0, 0), LOST);
        due.is("with wheels there is one", x.walk(0, 0, 1, 0), ARRIVED);
        due.is("its minutes", x.walk(0, 0, 1, 1), 9);
        due.is("via the lift", x.via(0, 0, 1, 1), 2);
        due.is("far without", x.far(0, 0, 0), 3);
        due.is("far with", x.far(0, 0, 1), 9);
        due.is("next without", x.next(0, 0, 0), 0);
        due.is("next with", x.next(0, 0, 1), 2);
    }

    private static void refused() {
        StrangerSigns x = Houses.corridor(2);
        x.goal(1, -1);
        due.is("place 2", x.walk(2, 0, 0, 0), BAD);
        due.is("place -1", x.walk(-1, 0, 0, 0), BAD);
        due.is("goal 1", x.walk(0, 1, 0, 0), BAD);
        due.is("goal -1", x.walk(0, -1, 0, 0), BAD);
        due.is("wheels 2", x.walk(0, 0, 2, 0), BAD);
        due.is("wheels -1", x.walk(0, 0, -1, 0), BAD);
        due.is("what 5", x.walk(0, 0, 0, 5), BAD);
        due.is("what -1", x.walk(0, 0, 0, -1), BAD);
        due.is("via place 2", x.via(2, 0, 0, 0), BAD);
        due.is("via goal 1", x.via(0, 1, 0, 0), BAD);
        due.is("via wheels 2", x.via(0, 0, 2, 0), BAD);
        due.is("a walk of one leaves no astray", x.led(), NONE);
    }

    private static void far() {
        StrangerSigns x = Houses.withPlaces(5);
        x.way(0, 1, 6, 10);
        x.way(0, 2, 2, 4);
        x.way(2, 1, 1, 6);
        x.way(0, 3, 4, 3);
        x.way(3, 1, 3, 7);
        x.goal(1, -1);
        x.goal(4, -1);
        due.is("far", x.far(0, 0, 0), 10);
        due.is("of several the least direction", x.next(0, 0, 0), 2);
        x.shut(2, true);
        due.is("of two the least direction", x.next(0, 0, 0), 4);
        x.shut(4, true);
        due.is("the one that is left", x.next(0, 0, 0), 6);
        due.is("from the other end", x.next(2, 0, 0), 6);
        due.is("far from there", x.far(2, 0, 0), 14);
        due.is("far: it is there", x.far(1, 0, 0), 0);
        due.is("next: it is there", x.next(1, 0, 0), NONE);
        due.is("far: it can't be come to", x.far(0, 1, 0), NONE);
        due.is("next: it can't be come to", x.next(0, 1, 0), NONE);
    }

    private static void farRefused() {
        StrangerSigns x = Houses.corridor(2);
        x.goal(1, -1);
        int[][] bad = {{2, 0, 0}, {-1, 0, 0}, {0, 1, 0}, {0, -1, 0}, {0, 0, 2}, {0, 0, -1}};
        for (int[] b : bad) {
            due.is("far", x.far(b[0], b[1], b[2]), BAD);
            due.is("next", x.next(b[0], b[1], b[2]), BAD);
        }
    }
}
