/** Promises 1 to 8: a new object, places, ways, goals, hours. */
public final class PlacesTest {
    private static final int BAD = StrangerSigns.BAD, NO = StrangerSigns.NO, FULL = StrangerSigns.FULL, NONE = StrangerSigns.NONE;
    private static final Due due = new Due();

    public static void main(String[] args) {
        newObject();
        places();
        ways();
        waysRefused();
        wayTold();
        shut();
        goals();
        hours();
        due.end();
    }

    private static void newObject() {
        StrangerSigns x = new StrangerSigns();
        int[] counts = {0, 0, 0, 0, 0, 0, 0, 0, 0, 0, 8, 0, 1};
        for (int what = 0; what < counts.length; what++) {
            due.is("new: count " + what, x.count(what), counts[what]);
        }
        due.is("new: wayTold", x.wayTold(0, 0), BAD);
        due.is("new: goalTold", x.goalTold(0, 0), BAD);
        due.is("new: told", x.told(0, 0), BAD);
        due.is("new: textTold", x.textTold(0, 0), BAD);
        due.is("new: mark", x.mark(0, 0, 0), StrangerSigns.NOTHING);
        due.is("new: item", x.item(0, 0), StrangerSigns.NOTHING);
        due.is("new: back", x.back(), NO);
        due.is("new: undo", x.undo(), NO);
        due.is("new: text", x.text(), -100);
    }

    private static void places() {
        StrangerSigns x = new StrangerSigns();
        for (int i = 0; i < 12; i++) {
            due.is("place", x.place(), i);
        }
        due.is("place 13", x.place(), FULL);
        due.is("places", x.count(0), 12);
    }

    private static void ways() {
        StrangerSigns x = Houses.withPlaces(4);
        due.is("way", x.way(0, 1, 6, 130), 0);
        due.is("one end is taken", x.way(0, 2, 6, 1), NO);
        due.is("the other end is taken", x.way(2, 1, 6, 1), NO);
        due.is("turned, the one end is taken", x.way(1, 2, 2, 1), NO);
        due.is("turned, the other end is taken", x.way(2, 0, 2, 1), NO);
        due.is("a second way between two places", x.way(1, 0, 6, 1), 1);
        due.is("a third one", x.way(0, 1, 3, 1), 2);
        due.is("in direction 3 from 0 as in 7 from 1", x.way(1, 3, 7, 1), NO);
        due.is("ways", x.count(1), 3);
    }

    private static void waysRefused() {
        StrangerSigns x = Houses.withPlaces(12);
        int[][] bad = {{-1, 1, 0, 1}, {12, 1, 0, 1}, {0, -1, 0, 1}, {0, 12, 0, 1}, {3, 3, 0, 1}, {0, 1, -1, 1}, {0, 1, 8, 1},
            {0, 1, 0, 0}, {0, 1, 0, 31}, {0, 1, 0, 99}, {0, 1, 0, 100}, {0, 1, 0, 331}, {0, 1, 0, 401}, {0, 1, 0, -99}, {0, 1, 0, -1},
            {0, 1, 0, Integer.MIN_VALUE}, {0, 1, 0, Integer.MAX_VALUE}};
        for (int[] b : bad) {
            due.is("way of " + b[0] + " " + b[1] + " " + b[2] + " " + b[3], x.way(b[0], b[1], b[2], b[3]), BAD);
        }
        for (int i = 0; i < 20; i++) {
            due.is("way " + i, x.way(i % 10, i % 10 + 1, i / 10, 330), i);
        }
        due.is("BAD ahead of FULL", x.way(0, 0, 0, 1), BAD);
        due.is("FULL ahead of NO", x.way(0, 1, 0, 1), FULL);
        due.is("way 21", x.way(0, 11, 7, 1), FULL);
    }

    private static void wayTold() {
        StrangerSigns x = Houses.withPlaces(3);
        x.way(2, 1, 5, 130);
        x.way(0, 1, 0, 207);
        x.way(0, 2, 3, 301);
        int[][] told = {{2, 1, 5, 1, 30, 0, 1, 0}, {0, 1, 0, 2, 7, 0, 1, 1}, {0, 2, 3, 3, 1, 0, 1, 1}};
        for (int way = 0; way < 3; way++) {
            for (int what = 0; what < 8; what++) {
                due.is("wayTold " + way + " " + what, x.wayTold(way, what), told[way][what]);
            }
        }
        due.is("wayTold what 8", x.wayTold(0, 8), BAD);
        due.is("wayTold what -1", x.wayTold(0, -1), BAD);
        due.is("wayTold way 3", x.wayTold(3, 0), BAD);
        due.is("wayTold way -1", x.wayTold(-1, 0), BAD);
        x.hours(13);
        due.is("a gate at 21", x.wayTold(2, 6), 1);
        x.hours(1);
        due.is("a gate at 22", x.wayTold(2, 6), 0);
        x.hours(7);
        due.is("a gate at 5", x.wayTold(2, 7), 0);
        x.hours(1);
        due.is("a gate at 6", x.wayTold(2, 7), 1);
    }

    private static void shut() {
        StrangerSigns x = Houses.corridor(3);
        due.is("not shut yet", x.shut(0, false), 0);
        due.is("shut", x.shut(0, true), 1);
        due.is("shut already", x.shut(0, true), 0);
        due.is("told shut", x.wayTold(0, 5), 1);
        due.is("a shut way does not pass", x.wayTold(0, 6), 0);
        due.is("the other way is not shut", x.wayTold(1, 5), 0);
        due.is("no more shut", x.shut(0, false), 1);
        due.is("it passes again", x.wayTold(0, 6), 1);
        due.is("no such way", x.shut(2, true), BAD);
        due.is("way -1", x.shut(-1, true), BAD);
    }

    private static void goals() {
        StrangerSigns x = Houses.withPlaces(2);
        due.is("goal", x.goal(1, 3), 0);
        due.is("goal in no group", x.goal(0, -1), 1);
        due.is("its place", x.goalTold(0, 0), 1);
        due.is("its group", x.goalTold(0, 1), 3);
        due.is("no group", x.goalTold(1, 1), NONE);
        due.is("goalTold what 2", x.goalTold(0, 2), BAD);
        due.is("goalTold what -1", x.goalTold(0, -1), BAD);
        due.is("goalTold goal 2", x.goalTold(2, 0), BAD);
        due.is("goalTold goal -1", x.goalTold(-1, 0), BAD);
        due.is("goal at no place", x.goal(2, 0), BAD);
        due.is("goal at place -1", x.goal(-1, 0), BAD);
        due.is("goal in group 4", x.goal(0, 4), BAD);
        due.is("goal in group -2", x.goal(0, -2), BAD);
        for (int i = 2; i < 10; i++) {
            due.is("goal", x.goal(0, 0), i);
        }
        due.is("BAD ahead of FULL", x.goal(2, 0), BAD);
        due.is("goal 11", x.goal(0, 0), FULL);
        due.is("goals", x.count(2), 10);
    }

    private static void hours() {
        StrangerSigns x = new StrangerSigns();
        due.is("hours 0", x.hours(0), BAD);
        due.is("hours 49", x.hours(49), BAD);
        due.is("hours -1", x.hours(-1), BAD);
        due.is("to 23", x.hours(15), 23);
        due.is("still day 0", x.count(11), 0);
        due.is("behind 23 comes 0", x.hours(1), 0);
        due.is("day 1", x.count(11), 1);
        due.is("two days", x.hours(48), 0);
        due.is("day 3", x.count(11), 3);
        for (int i = 0; i < 498; i++) {
            x.hours(48);
        }
        due.is("day 999", x.count(11), 999);
        due.is("beyond 999", x.hours(24), FULL);
        due.is("to the last hour", x.hours(23), 23);
        due.is("one more", x.hours(1), FULL);
        due.is("nothing changed", x.count(10), 23);
        due.is("BAD ahead of FULL", x.hours(99), BAD);
    }
}
