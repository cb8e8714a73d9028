/** What several tests build, and how they feed a text. */
final class Houses {
    private Houses() {
    }

    static StrangerSigns withPlaces(int n) {
        StrangerSigns x = new StrangerSigns();
        for (int i = 0; i < n; i++) {
            x.place();
        }
        return x;
    }

    /** Places 0 - 1 - 2 - .. in a row, each way in direction 0 and of one minute. */
    static StrangerSigns corridor(int n) {
        StrangerSigns x = withPlaces(n);
        for (int i = 0; i + 1 < n; i++) {
            x.way(i, i + 1, 0, 1);
        }
        return x;
    }

    /** Place 0 in the middle; places 1 .. 4 from it in directions 0, 2, 4, 6; minutes 1 .. 4. */
    static StrangerSigns star() {
        StrangerSigns x = withPlaces(5);
        for (int i = 1; i <= 4; i++) {
            x.way(0, i, 2 * (i - 1), i);
        }
        return x;
    }

    /** Puts the bytes of a text on an empty tape. */
    static void feed(StrangerSigns x, String text) {
        int[] numbers = new int[24];
        for (int i = 0; i < text.length(); i++) {
            numbers[i / 4] |= (text.charAt(i) & 255) << (24 - 8 * (i % 4));
        }
        for (int i = 0; 12 * i < text.length(); i++) {
            x.feed(numbers[3 * i], numbers[3 * i + 1], numbers[3 * i + 2]);
        }
        x.trim(text.length());
    }

    static int text(StrangerSigns x, String text) {
        feed(x, text);
        return x.text();
    }
}
