/** Promises 35 to 37: crowds that are drawn. */
public final class CrowdsTest {
    private static final int BAD = StrangerSigns.BAD, NO = StrangerSigns.NO, NONE = StrangerSigns.NONE;
    private static final Due due = new Due();

    public static void main(String[] args) {
        seed();
        refused();
        asWalked();
        astray();
        led();
        due.end();
    }

    private static void seed() {
        StrangerSigns x = new StrangerSigns();
        due.is("1 at first", x.seed(Integer.MIN_VALUE), 1);
        due.is("any number", x.seed(-7), Integer.MIN_VALUE);
        due.is("z", x.count(12), -7);
    }

    private static void refused() {
        StrangerSigns x = new StrangerSigns();
        due.is("no places", x.strangers(1), NO);
        due.is("BAD ahead of NO", x.strangers(0), BAD);
        x.place();
        due.is("no goals", x.strangers(1), NO);
        x.goal(0, -1);
        due.is("0", x.strangers(0), BAD);
        due.is("61", x.strangers(61), BAD);
        due.is("-1", x.strangers(-1), BAD);
        due.is("z stays", x.count(12), 1);
        due.is("60", x.strangers(60), 60);
        int z = 1;
        for (int i = 0; i < 180; i++) {
            z = z * 1103515245 + 12345;
        }
        due.is("three draws each", x.count(12), z);
    }

    /** Each one drawn walks as walk tells it. */
    private static void asWalked() {
        StrangerSigns x = crossing();
        int z = 99;
        x.seed(z);
        int[] astray = new int[2];
        for (int i = 0; i < 40; i++) {
            z = z * 1103515245 + 12345;
            int place = (z >>> 8) % 5;
            z = z * 1103515245 + 12345;
            int goal = (z >>> 8) % 3;
            z = z * 1103515245 + 12345;
            int wheels = (z >>> 8) % 4 == 0 ? 1 : 0;
            boolean arrives = x.walk(place, goal, wheels, 0) == 1;
            int followed = x.walk(place, goal, wheels, 4);
            due.is("stranger " + i, x.strangers(1), arrives ? 1 : 0);
            due.is("z", x.count(12), z);
            if (!arrives && followed != NONE) {
                astray[followed]++;
            }
            due.is("astray of 0", x.told(0, 7), astray[0]);
            due.is("astray of 1", x.told(1, 7), astray[1]);
        }
        due.holds("some went astray by each", astray[0] > 0 && astray[1] > 0);
    }

    private static StrangerSigns crossing() {
        StrangerSigns x = Houses.withPlaces(5);
        x.way(0, 1, 0, 101);
        x.way(0, 2, 2, 2);
        x.way(0, 3, 4, 203);
        x.way(0, 4, 6, 4);
        x.goal(1, 0);
        x.goal(2, 0);
        x.goal(3, -1);
        x.sign(0, 0, 0);
        x.sign(4, 0, 0);
        x.row(0, 10, 0);
        x.row(0, 2, 6);
        x.row(1, 2, 3);
        return x;
    }

    /** 512 calls are told of an object; 60 a call come beyond 9999. */
    private static void astray() {
        StrangerSigns x = Houses.corridor(2);
        x.goal(1, -1);
        x.sign(0, 0, 0);
        x.row(0, 0, 3);
        int lost = 0;
        for (int i = 0; i < 450; i++) {
            lost = Math.min(9999, lost + 60 - x.strangers(60));
        }
        due.is("9999 at most", x.told(0, 7), lost);
        due.is("so many were", lost, 9999);
    }

    private static void led() {
        StrangerSigns x = Houses.corridor(2);
        x.goal(1, -1);
        x.sign(1, 0, 0);
        x.sign(0, 0, 0);
        x.sign(0, 0, 0);
        due.is("none", x.led(), NONE);
        x.row(1, 0, 3);
        x.row(2, 0, 3);
        lose(x, 3);
        due.is("the one that was followed", x.led(), 1);
        x.drop(1, 0);
        lose(x, 3);
        due.is("of several the least", x.led(), 1);
        lose(x, 1);
        due.is("the most", x.led(), 2);
        due.is("astray", x.told(2, 7), 4);
        x.turns(2, 1);
        due.is("another kind leaves it", x.told(2, 7), 4);
    }

    private static void lose(StrangerSigns x, int many) {
        int lost = 0;
        for (int i = 0; i < 100 && lost < many; i++) {
            lost += 1 - x.strangers(1);
        }
    }
}
