/** Promises 46 to 50: numbers that wait, walks told, images, counts. */
public final class ImagesTest {
    private static final int BAD = StrangerSigns.BAD, NO = StrangerSigns.NO, FULL = StrangerSigns.FULL, NONE = StrangerSigns.NONE;
    private static final Due due = new Due();

    public static void main(String[] args) {
        tell();
        checkRefused();
        check();
        checkFromImage();
        image();
        imageIsKept();
        newBehindTheImage();
        counts();
        due.end();
    }

    private static void tell() {
        StrangerSigns x = new StrangerSigns();
        for (int i = 1; i <= 60; i++) {
            due.is("tell", x.tell(i), i);
        }
        due.is("61", x.tell(0), FULL);
        due.is("so many wait", x.count(8), 60);
    }

    private static void checkRefused() {
        StrangerSigns x = new StrangerSigns();
        x.tell(1);
        due.is("BAD ahead of NO", x.check(0), BAD);
        due.is("none waits", x.count(8), 0);
        x.tell(1);
        due.is("no image", x.check(1), NO);
        due.is("none waits then", x.count(8), 0);
        x.keep();
        due.is("no places in it", x.check(1), NO);
        x.place();
        x.keep();
        due.is("no goals in it", x.check(1), NO);
        x.goal(0, -1);
        due.is("still none in it", x.check(1), NO);
        x.keep();
        due.is("31", x.check(31), BAD);
        due.is("-1", x.check(-1), BAD);
        due.is("none waits, the first is missing", x.check(1), 1);
    }

    private static StrangerSigns house() {
        StrangerSigns x = Houses.star();
        x.goal(1, 0);
        x.goal(2, 0);
        x.goal(3, -1);
        x.sign(0, 0, 0);
        x.row(0, 10, 0);
        x.row(0, 2, 4);
        x.seed(5);
        return x;
    }

    /** The walks told of a house, by draws of the test's own. */
    private static int[] walksTold(StrangerSigns x, int n) {
        int z = x.count(12);
        int[] told = new int[2 * n];
        for (int i = 0; i < n; i++) {
            int[] drawn = new int[3];
            for (int j = 0; j < 3; j++) {
                z = z * 1103515245 + 12345;
                drawn[j] = z >>> 8;
            }
            int place = drawn[0] % x.count(0);
            int goal = drawn[1] % x.count(2);
            int wheels = drawn[2] % 4 == 0 ? 1 : 0;
            told[2 * i] = x.walk(place, goal, wheels, 0);
            told[2 * i + 1] = x.walk(place, goal, wheels, 1);
        }
        return told;
    }

    private static void tellAll(StrangerSigns x, int[] told, int many) {
        for (int i = 0; i < many; i++) {
            x.tell(told[i]);
        }
    }

    private static void check() {
        StrangerSigns x = house();
        int[] told = walksTold(x, 30);
        x.keep();
        for (int n : new int[] {1, 7, 30}) {
            tellAll(x, told, 2 * n);
            due.is("all stand right", x.check(n), 0);
            tellAll(x, told, 2 * n - 1);
            due.is("one is missing", x.check(n), 2 * n);
        }
        tellAll(x, told, 5);
        due.is("two and a half, of two", x.check(2), 5);
        for (int odd = 0; odd < 10; odd++) {
            int[] wrong = told.clone();
            wrong[odd]++;
            tellAll(x, wrong, 10);
            due.is("the first that is not", x.check(5), 1 + odd);
        }
        due.is("none waits", x.count(8), 0);
        due.is("z as before", x.count(12), 5);
        due.is("no astray of that", x.led(), NONE);
    }

    private static void checkFromImage() {
        StrangerSigns x = house();
        int[] told = walksTold(x, 6);
        x.keep();
        x.strangers(9);
        x.aim(0, 0, 2);
        x.shut(0, true);
        Houses.text(x, "obey 0");
        tellAll(x, told, 12);
        due.is("from the image on", x.check(6), 0);
        tellAll(x, told, 12);
        due.is("and again", x.check(6), 0);
        x.back();
        due.is("z of the image", x.count(12), 5);
        due.is("no astray in it", x.led(), NONE);
    }

    private static void image() {
        StrangerSigns x = house();
        Houses.text(x, "gate 0");
        x.choose(2);
        x.hours(30);
        x.seed(1234);
        x.strangers(30);
        int astray = x.told(0, 7);
        int z = x.count(12);
        due.is("keep", x.keep(), 1);
        x.place();
        x.way(1, 5, 0, 304);
        x.goal(5, 3);
        x.sign(5, 5, 9);
        x.turns(0, 1);
        x.row(0, 3, 3);
        x.aim(0, 0, 6);
        x.shut(1, true);
        Houses.text(x, "gate 1");
        Houses.text(x, "light 1");
        x.choose(3);
        x.hours(5);
        x.strangers(20);
        due.is("back", x.back(), 1);
        int[] counts = {5, 4, 3, 1, 2, 1, 1, 0, 0, 0, 14, 1, z};
        for (int what = 0; what < counts.length; what++) {
            due.is("count " + what, x.count(what), counts[what]);
        }
        due.is("kind", x.told(0, 1), 0);
        due.is("astray", x.told(0, 7), astray);
        due.is("arrow", x.rowTold(0, 0, 1), 0);
        due.is("shut no more", x.wayTold(1, 5), 0);
        due.is("the gate that counts", x.why(1), 0);
        due.is("no light", x.why(0), NONE);
        due.is("no way there yet", x.way(1, 2, 0, 304), 4);
        due.is("the gate is shut", x.wayTold(4, 6), 0);
        due.is("the told place", x.choose(2), NO);
        due.is("no other one", x.choose(3), 2);
    }

    private static void imageIsKept() {
        StrangerSigns x = house();
        x.sheet(0, 0, 2);
        x.tell(5);
        x.feed(0, 0, 0);
        x.lay(0, 3, 9);
        x.keep();
        x.tell(6);
        x.mark(0, 0, 7);
        for (int i = 0; i < 3; i++) {
            x.row(0, 5, 5);
            x.sign(1, 4, 0);
            x.row(1, 7, 7);
            Houses.text(x, i == 0 ? "x" : "gate 1");
            due.is("again and again", x.back(), 1);
            due.is("rows", x.count(4), 2);
            due.is("texts", x.count(5), 0);
            due.is("nothing can be undone", x.undo(), NO);
        }
        due.is("numbers that wait stay", x.count(8), 2);
        due.is("sheets stay", x.mark(0, 0, 0), 7);
        due.is("slots stay", x.rest(0, 5), 4);
        x.row(0, 5, 5);
        due.is("a later image", x.keep(), 1);
        x.drop(0, 0);
        x.back();
        due.is("is the one", x.count(4), 3);
    }

    /** What comes where something else stood that went with the image is new. */
    private static void newBehindTheImage() {
        StrangerSigns x = Houses.corridor(3);
        x.goal(2, 1);
        x.keep();
        x.way(0, 2, 1, 205);
        x.shut(2, true);
        x.sign(1, 0, 0);
        x.row(0, 0, 3);
        x.strangers(30);
        due.holds("some went astray", x.told(0, 7) > 0);
        x.back();
        due.is("a sign", x.sign(0, 5, 3), 0);
        due.is("it has no astray", x.told(0, 7), 0);
        due.is("it has no rows", x.told(0, 2), 0);
        due.is("until", x.told(0, 8), 3);
        due.is("a way", x.way(2, 0, 6, 103), 2);
        int[] told = {2, 0, 6, 1, 3, 0, 1, 0};
        for (int what = 0; what < told.length; what++) {
            due.is("the new way", x.wayTold(2, what), told[what]);
        }
        due.is("the old direction is free", x.way(0, 2, 1, 5), 3);
    }

    private static void counts() {
        StrangerSigns x = house();
        x.feed(0, 0, 0);
        x.tell(3);
        x.choose(4);
        x.hours(40);
        Houses.text(x, "light 1");
        x.feed(1, 2, 3);
        int[] counts = {5, 4, 3, 1, 2, 0, 1, 2, 1, 12, 0, 2, 5};
        for (int what = 0; what < counts.length; what++) {
            due.is("count " + what, x.count(what), counts[what]);
        }
        due.is("count 13", x.count(13), BAD);
        due.is("count -1", x.count(-1), BAD);
    }
}
