/** Boundaries of promises 46 to 50 and of the images of terms 5: numbers that wait, walks told, images, counts. */
final class EdgesOfImages {
    private static final int BAD = Edges.BAD, NO = Edges.NO, FULL = Edges.FULL, NONE = Edges.NONE;
    private static final int LEAST = Integer.MIN_VALUE, GREATEST = Integer.MAX_VALUE;
    private final Edges e;

    EdgesOfImages(Edges edges) {
        e = edges;
    }

    void all() {
        tell();
        checkUsesNumbersUp();
        checkRefused();
        checkNeedsAnImage();
        checkRight();
        checkWrong();
        checkMissing();
        checkTooMany();
        checkFromTheImageOn();
        checkByTheImage();
        keep();
        back();
        imageKeeps();
        imageLeaves();
        againAndAgain();
        nothingCanBeUndone();
        emptyImage();
        fullImage();
        count();
    }

    private void tell() {
        e.promise(46, "One more number waits: how many. FULL: 60 wait.");
        for (int i = 1; i <= 60; i++) {
            e.is(i, "tell", i % 2 == 0 ? LEAST : GREATEST);
            e.is(i, "count", 8);
        }
        e.refused(FULL, "tell", 0);
        e.refused(FULL, "tell", LEAST);
        e.is(60, "count", 8);
        e.call("check", 0);
        e.is(1, "tell", 0);
    }

    private void checkUsesNumbersUp() {
        e.promise(47, "The numbers that wait (none do then, whatever is answered)");
        e.call("tell", 1);
        e.is(BAD, "check", 0);
        e.is(0, "count", 8);
        e.call("tell", 1);
        e.is(NO, "check", 1);
        e.is(0, "count", 8);
        e.places(1);
        e.call("goal", 0, -1);
        e.call("keep");
        e.call("tell", 1);
        e.call("tell", 0);
        e.is(0, "check", 1);
        e.is(0, "count", 8);
        e.call("tell", 5);
        e.is(1, "check", 1);
        e.is(0, "count", 8);
        for (int i = 0; i < 60; i++) {
            e.call("tell", 1 - i % 2);
        }
        e.is(0, "check", 30);
        e.is(0, "count", 8);
        e.is(1, "tell", 9);
    }

    private void checkRefused() {
        e.promise(47, "of n (1 .. 30) STRANGERS");
        e.furnished();
        e.is(BAD, "check", 0);
        for (int odd : new int[] {0, -1, 31, LEAST, GREATEST}) {
            e.refused(BAD, "check", odd);
        }
        e.refused(1, "check", 1);
        e.refused(1, "check", 30);
        e.fresh();
        for (int odd : new int[] {0, -1, 31, LEAST, GREATEST}) {
            e.refused(BAD, "check", odd);
        }
        e.refused(NO, "check", 1);
        e.refused(NO, "check", 30);
    }

    private void checkNeedsAnImage() {
        e.promise(47, "BAD; NO: there is no IMAGE, or no PLACES, or no GOALS in it.");
        e.refused(NO, "check", 1);
        e.call("keep");
        e.refused(NO, "check", 1);
        e.call("place");
        e.refused(NO, "check", 1);
        e.call("keep");
        e.refused(NO, "check", 1);
        e.refused(BAD, "check", 31);
        e.call("goal", 0, -1);
        e.refused(NO, "check", 1);
        e.call("keep");
        e.refused(1, "check", 1);
        e.call("tell", 1);
        e.call("tell", 0);
        e.is(0, "check", 1);
        e.refused(BAD, "check", 0);
    }

    /** A house in which some arrive, some are lost, some are sent round. */
    private void house() {
        e.star();
        e.call("goal", 1, 0);
        e.call("goal", 2, 0);
        e.call("goal", 3, -1);
        e.call("sign", 0, 0, 0);
        e.call("row", 0, 10, 0);
        e.call("row", 0, 2, 6);
        e.call("sign", 4, 0, 0);
        e.call("row", 1, 2, 2);
        e.call("seed", 5);
    }

    /** The walks told of the house as it is now, by draws of the test's own. */
    private int[] walksTold(int n) {
        int z = e.call("count", 12);
        int places = e.call("count", 0), goals = e.call("count", 2);
        int[] told = new int[2 * n];
        for (int i = 0; i < n; i++) {
            int[] drawn = new int[3];
            for (int j = 0; j < 3; j++) {
                z = z * 1103515245 + 12345;
                drawn[j] = z >>> 8;
            }
            int wheels = drawn[2] % 4 == 0 ? 1 : 0;
            told[2 * i] = e.call("walk", drawn[0] % places, drawn[1] % goals, wheels, 0);
            told[2 * i + 1] = e.call("walk", drawn[0] % places, drawn[1] % goals, wheels, 1);
        }
        return told;
    }

    private void tellFirst(int[] numbers, int many) {
        for (int i = 0; i < many; i++) {
            e.call("tell", numbers[i]);
        }
    }

    private void checkRight() {
        e.terms(5, "THE WALKS TOLD: of n STRANGERS drawn from THE IMAGE on what becomes of each (1 .. 3), and their MINUTES.");
        house();
        int[] told = walksTold(30);
        boolean[] ended = new boolean[4];
        for (int i = 0; i < told.length; i += 2) {
            ended[told[i]] = true;
        }
        e.holds("some arrive, some are lost, some are sent round", ended[1] && ended[2] && ended[3]);
        e.call("keep");
        for (int n : new int[] {1, 2, 29, 30}) {
            tellFirst(told, 2 * n);
            e.is(0, "check", n);
        }
    }

    private void checkWrong() {
        e.promise(47, "0; else 1 and how many stand right ahead of the first that is not");
        house();
        int[] told = walksTold(30);
        e.call("keep");
        for (int odd : new int[] {0, 1, 2, 3, 58, 59}) {
            int n = odd < 4 ? 2 : 30;
            int[] wrong = told.clone();
            wrong[odd]++;
            tellFirst(wrong, 2 * n);
            e.is(1 + odd, "check", n);
        }
        int[] two = told.clone();
        two[1]++;
        two[3]++;
        tellFirst(two, 4);
        e.is(2, "check", 2);
    }

    private void checkMissing() {
        e.promise(47, "(or is missing, or one too many)");
        house();
        int[] told = walksTold(30);
        e.call("keep");
        e.is(1, "check", 1);
        e.is(1, "check", 30);
        for (int many : new int[] {1, 2, 3, 59}) {
            tellFirst(told, many);
            e.is(many + 1, "check", 30);
        }
        tellFirst(told, 1);
        e.is(2, "check", 1);
        tellFirst(told, 58);
        e.is(59, "check", 30);
    }

    private void checkTooMany() {
        e.promise(47, "or one too many)");
        house();
        int[] told = walksTold(30);
        e.call("keep");
        tellFirst(told, 3);
        e.is(3, "check", 1);
        tellFirst(told, 4);
        e.is(3, "check", 1);
        tellFirst(told, 60);
        e.is(3, "check", 1);
        tellFirst(told, 60);
        e.is(59, "check", 29);
        int[] wrong = told.clone();
        wrong[0]++;
        tellFirst(wrong, 3);
        e.is(1, "check", 1);
    }

    private void checkFromTheImageOn() {
        e.terms(5, "of n STRANGERS drawn from THE IMAGE on");
        house();
        int[] told = walksTold(6);
        e.call("keep");
        e.call("strangers", 9);
        e.call("aim", 0, 0, 2);
        e.call("shut", 0, true);
        e.call("place");
        e.call("goal", 5, -1);
        e.text(0, "obey 0");
        int z = e.call("count", 12);
        int astray = e.call("told", 0, 7);
        for (int again = 0; again < 2; again++) {
            tellFirst(told, 12);
            e.is(0, "check", 6);
        }
        e.is(z, "count", 12);
        e.is(astray, "told", 0, 7);
        e.call("back");
        e.is(5, "count", 12);
        e.is(0, "told", 0, 7);
        tellFirst(told, 12);
        e.is(0, "check", 6);
    }

    /** Strangers of an image go by its own ways, hours, days, groups, kinds, rows and texts, whatever became of them since. */
    private void checkByTheImage() {
        e.terms(5, "of n STRANGERS drawn from THE IMAGE on");
        for (int text = 0; text < 8; text++) {
            e.fresh();
            e.places(6);
            e.call("way", 1, 0, 0, 105);
            e.call("way", 2, 1, 0, 302);
            e.call("way", 3, 2, 0, 203);
            e.call("way", 4, 3, 0, 4);
            e.call("way", 5, 3, 2, 307);
            e.call("goal", 0, 2);
            e.call("goal", 5, -1);
            e.call("goal", 4, 1);
            for (int place = 1; place < 4; place++) {
                int sign = e.call("sign", place, place == 1 ? 5 : place == 2 ? 3 : 1, 3);
                e.call("row", sign, place == 1 ? 12 : place == 2 ? 0 : 11, place == 3 ? 4 : 0);
                e.call("row", sign, 10, 4);
                e.call("row", sign, 12, 0);
            }
            e.call("hours", 34);
            e.text(0, text % 2 == 0 ? "gate h>9" : "gate 0");
            e.text(1, text / 2 % 2 == 0 ? "light d=1" : "light 0");
            e.text(2, text / 4 == 0 ? "obey s+w" : "obey k=5");
            int[] told = walksTold(30);
            e.call("keep");
            e.text(3, "gate h<9");
            e.text(4, "light d>1");
            e.text(5, "obey 0");
            e.call("hours", 48);
            e.call("turns", 1, 0);
            e.call("drop", 0, 0);
            tellFirst(told, 60);
            e.is(0, "check", 30);
            e.call("back");
            e.is(1, "count", 11);
            int[] again = walksTold(30);
            e.holds("walks are as they were", java.util.Arrays.equals(told, again));
        }
    }

    private void keep() {
        e.promise(48, "AN IMAGE is kept: the number of SIGNS.");
        e.is(0, "keep");
        e.places(1);
        for (int i = 1; i <= 14; i++) {
            e.call("sign", 0, 0, 0);
            e.is(i, "keep");
        }
        e.is(14, "back");
        e.is(14, "keep");
    }

    private void back() {
        e.promise(49, "All is as THE IMAGE: the number of SIGNS. NO: there is none.");
        e.refused(NO, "back");
        e.places(1);
        e.call("sign", 0, 0, 0);
        e.refused(NO, "back");
        e.is(1, "keep");
        e.call("sign", 0, 0, 0);
        e.is(1, "back");
        e.is(1, "count", 3);
        e.call("sign", 0, 0, 0);
        e.is(2, "keep");
        e.is(2, "back");
        e.is(2, "count", 3);
    }

    private void imageKeeps() {
        e.terms(5, "AN IMAGE keeps all but SHEETS, SLOTS, numbers that wait, THE TAPE, what can be undone; all can become as it is");
        e.furnished();
        e.call("hours", 30);
        e.text(1, "light 0");
        e.call("strangers", 30);
        int z = e.call("count", 12);
        int astray = e.call("told", 0, 7);
        e.call("keep");
        e.call("place");
        e.call("way", 5, 1, 3, 205);
        e.call("shut", 6, true);
        e.call("shut", 0, true);
        e.call("goal", 5, 3);
        e.call("sign", 5, 5, 40);
        e.call("turns", 0, 1);
        e.call("aim", 0, 0, 5);
        e.call("drop", 0, 1);
        e.text(2, "gate 0");
        e.text(3, "light 1");
        e.text(4, "obey 0");
        e.call("clear");
        e.call("choose", 1);
        e.call("hours", 48);
        e.call("strangers", 60);
        e.is(6, "back");
        int[] counts = {5, 6, 3, 6, 4, 2, 2, 0, 1, 0, 14, 1, z};
        for (int what = 0; what < counts.length; what++) {
            e.is(counts[what], "count", what);
        }
        e.is(0, "wayTold", 0, 5);
        e.is(1, "wayTold", 4, 6);
        e.is(0, "told", 0, 1);
        e.is(astray, "told", 0, 7);
        e.is(0, "rowTold", 0, 0, 1);
        e.is(2, "rowTold", 0, 1, 0);
        e.is(9, "told", 5, 8);
        e.is(0, "why", 1);
        e.is(1, "why", 0);
        e.is(NONE, "why", 2);
        e.is(NO, "choose", 4);
        e.is(NO, "choose", 0);
        e.is(3, "choose", 1);
        e.is(6, "way", 1, 2, 3, 205);
        e.is(0, "wayTold", 6, 5);
    }

    private void imageLeaves() {
        e.terms(5, "all but SHEETS, SLOTS, numbers that wait, THE TAPE, what can be undone");
        e.furnished();
        e.call("keep");
        e.is(4, "count", 7);
        e.call("sheet", 0, 1, 2);
        e.call("mark", 1, 0, 5);
        e.call("lay", 0, 3, 8);
        e.call("lay", 2, 0, 0);
        e.call("tell", 2);
        e.call("trim", 5);
        e.call("back");
        e.is(0, "mark", 0, 1, 0);
        e.is(5, "mark", 1, 0, 5);
        e.is(8, "rest", 0, 9);
        e.is(Edges.NOTHING, "rest", 2, 9);
        e.is(2, "count", 8);
        e.is(5, "count", 9);
        e.is(-105, "text");
        e.call("keep");
        e.is(2, "count", 8);
        e.is(5, "mark", 1, 0, 5);
    }

    private void againAndAgain() {
        e.terms(5, "(again and again; nothing can be undone then)");
        house();
        e.is(2, "keep");
        for (int i = 0; i < 4; i++) {
            e.call("row", 0, i, i);
            e.call("drop", 1, 0);
            e.call("hours", 7);
            e.call("strangers", 5);
            e.is(2, "back");
            e.is(8, "count", 10);
            e.is(5, "count", 12);
            e.is(3, "count", 4);
            e.is(10, "rowTold", 0, 0, 0);
            e.is(2, "rowTold", 1, 0, 1);
        }
        e.is(2, "back");
        e.is(3, "count", 4);
    }

    private void nothingCanBeUndone() {
        e.terms(5, "nothing can be undone then)");
        house();
        e.call("row", 0, 1, 1);
        e.is(2, "count", 7);
        e.call("keep");
        e.is(2, "count", 7);
        e.is(1, "undo");
        e.is(3, "count", 4);
        e.call("back");
        e.is(0, "count", 7);
        e.refused(NO, "undo");
        e.is(4, "count", 4);
        e.call("drop", 0, 0);
        e.is(0, "undo");
        e.is(4, "count", 4);
        e.is(10, "rowTold", 0, 0, 0);
    }

    private void emptyImage() {
        e.promise(49, "All is as THE IMAGE");
        e.is(0, "keep");
        for (int again = 0; again < 2; again++) {
            house();
            e.text(0, "gate 0");
            e.call("choose", 0);
            e.call("strangers", 60);
            e.call("hours", 40);
            e.call("trim", 0);
            e.is(0, "back");
            int[] counts = {0, 0, 0, 0, 0, 0, 0, 0, 0, 0, 8, 0, 1};
            for (int what = 0; what < counts.length; what++) {
                e.is(counts[what], "count", what);
            }
            e.refused(NO, "strangers", 1);
            e.refused(NONE, "led");
            e.refused(NONE, "why", 1);
            e.refused(BAD, "told", 0, 0);
            e.refused(BAD, "goal", 0, 0);
        }
        e.places(2);
        e.is(0, "way", 0, 1, 4, 301);
        e.is(1, "wayTold", 0, 6);
        e.is(0, "sign", 0, 0, 0);
        e.is(0, "told", 0, 2);
        e.is(0, "told", 0, 7);
    }

    private void fullImage() {
        e.promise(49, "All is as THE IMAGE");
        e.places(12);
        for (int i = 0; i < 20; i++) {
            e.call("way", i % 10, i % 10 + 1, i / 10, 1);
        }
        for (int i = 0; i < 10; i++) {
            e.call("goal", i, i % 5 - 1);
        }
        for (int i = 0; i < 14; i++) {
            e.call("sign", i % 12, 4, 0);
            e.text(i, "gate " + i);
        }
        for (int i = 0; i < 6; i++) {
            e.call("choose", i);
        }
        for (int i = 0; i < 6; i++) {
            e.call("row", 13, i, i);
        }
        e.is(14, "keep");
        for (int again = 0; again < 2; again++) {
            e.refused(FULL, "place");
            e.refused(FULL, "way", 0, 11, 5, 1);
            e.refused(FULL, "goal", 0, 0);
            e.refused(FULL, "sign", 0, 0, 0);
            e.refused(FULL, "choose", 6);
            e.refused(FULL, "row", 13, 0, 0);
            e.text(FULL, "gate 1");
            e.is(13, "why", 1);
            e.call("drop", 13, 0);
            e.call("clear");
            e.is(14, "back");
        }
        e.is(5, "rowTold", 13, 5, 1);
        e.is(6, "count", 6);
    }

    private void count() {
        e.promise(50, "0 PLACES, 1 WAYS, 2 GOALS, 3 SIGNS, 4 ROWS of all, 5 TEXTS, 6 told PLACES, 7 changes that can be undone, 8 numbers that wait, "
            + "9 bytes of THE TAPE, 10 HOUR, 11 DAY, 12 z. BAD.");
        e.furnished();
        e.call("hours", 40);
        e.call("seed", LEAST);
        int[] counts = {5, 6, 3, 6, 4, 1, 2, 4, 1, 7, 0, 2, LEAST};
        for (int what = 0; what < counts.length; what++) {
            e.reads(counts[what], "count", what);
        }
        for (int odd : new int[] {-1, 13, LEAST, GREATEST}) {
            e.refused(BAD, "count", odd);
        }
    }
}
