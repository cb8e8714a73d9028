/** Boundaries of promises 35 to 37 and of the crowds of terms 5: draws, strangers, who was led astray. */
final class EdgesOfCrowds {
    private static final int BAD = Edges.BAD, NO = Edges.NO, NONE = Edges.NONE;
    private static final int SIGN = 0;
    private final Edges e;

    EdgesOfCrowds(Edges edges) {
        e = edges;
    }

    void all() {
        seed();
        draws();
        strangersAtMost();
        strangersNeedPlacesAndGoals();
        strangersDrawn();
        astray();
        astrayAtMost();
        led();
        ledAtMost();
    }

    private static int drawn(int z, int draws) {
        int after = z;
        for (int i = 0; i < draws; i++) {
            after = after * 1103515245 + 12345;
        }
        return after;
    }

    private void seed() {
        e.promise(35, "z becomes v: what it was.");
        int[] all = {0, -1, Integer.MAX_VALUE, Integer.MIN_VALUE, 1};
        int before = 1;
        for (int z : all) {
            e.is(before, "seed", z);
            e.is(z, "count", 12);
            before = z;
        }
        e.terms(5, "z is told (1 at first).");
        e.is(1, "count", 12);
        e.is(1, "seed", 1);
    }

    private void draws() {
        e.terms(5, "A draw: z becomes z * 1103515245 + 12345 (an int); it gives z >>> 8.");
        e.places(12);
        e.call("goal", 0, -1);
        int[] seeds = {1, 0, -1, Integer.MAX_VALUE, Integer.MIN_VALUE, 1234567890};
        for (int seed : seeds) {
            e.call("seed", seed);
            // The only goal is at place 0, and there are no ways: who is drawn at place 0 arrives.
            int z = seed;
            for (int i = 0; i < 24; i++) {
                int place = (drawn(z, 1) >>> 8) % 12;
                e.is(place == 0 ? 1 : 0, "strangers", 1);
                z = drawn(z, 3);
                e.is(z, "count", 12);
            }
        }
    }

    private void strangersAtMost() {
        e.promise(36, "n (1 .. 60) STRANGERS are drawn and walk: how many ARRIVE.");
        e.furnished();
        int z = e.call("count", 12);
        for (int odd : new int[] {0, -1, 61, Integer.MIN_VALUE, Integer.MAX_VALUE}) {
            e.refused(BAD, "strangers", odd);
        }
        e.is(z, "count", 12);
        e.call("strangers", 1);
        e.is(drawn(z, 3), "count", 12);
        e.call("strangers", 60);
        e.is(drawn(z, 183), "count", 12);
        e.fresh();
        e.places(1);
        e.call("goal", 0, -1);
        e.is(1, "strangers", 1);
        e.is(60, "strangers", 60);
        e.is(59, "strangers", 59);
    }

    private void strangersNeedPlacesAndGoals() {
        e.promise(36, "BAD; NO: there are no PLACES, or no GOALS.");
        e.refused(NO, "strangers", 1);
        e.refused(NO, "strangers", 60);
        e.refused(BAD, "strangers", 0);
        e.refused(BAD, "strangers", 61);
        e.call("place");
        e.refused(NO, "strangers", 1);
        e.refused(BAD, "strangers", 61);
        e.call("goal", 0, -1);
        e.is(1, "strangers", 1);
    }

    /** Stairs, and a way behind them: where who goes comes to depends on all three that are drawn. */
    private void strangersDrawn() {
        e.terms(5, "A STRANGER drawn: three draws: the PLACE (the rest by how many there are), the GOAL (likewise), WHEELS (1, if the rest by 4 is 0).");
        e.places(3);
        e.call("way", 0, 1, 0, 101);
        e.call("way", 1, 2, 0, 1);
        e.call("goal", 1, -1);
        e.call("goal", 2, -1);
        int z = 1;
        int[] ended = new int[2];
        for (int i = 0; i < 100; i++) {
            int place = (drawn(z, 1) >>> 8) % 3;
            int goal = (drawn(z, 2) >>> 8) % 2;
            int wheels = (drawn(z, 3) >>> 8) % 4 == 0 ? 1 : 0;
            boolean arrives = place == goal + 1 || place == 0 && wheels == 0 || place == 2 && goal == 0 || place == 1 && goal == 1 && wheels == 1;
            e.is(arrives ? 1 : 0, "strangers", 1);
            ended[arrives ? 1 : 0]++;
            z = drawn(z, 3);
        }
        e.holds("some arrive and some do not", ended[0] > 10 && ended[1] > 10);
    }

    private void astray() {
        e.terms(5, "Of those who do not ARRIVE the SIGN that they FOLLOWED last (if any) has one more ASTRAY");
        e.corridor(3);
        e.call("goal", 2, -1);
        e.call("sign", 0, SIGN, 0);
        e.call("sign", 1, SIGN, 0);
        e.call("row", 0, 0, 0);
        e.call("row", 1, 0, 2);
        e.is(0, "told", 0, 7);
        e.is(0, "told", 1, 7);
        int arrived = e.call("strangers", 60);
        e.is(0, "told", 0, 7);
        e.is(60 - arrived, "told", 1, 7);
        e.call("aim", 1, 0, 0);
        e.is(60, "strangers", 60);
        e.is(0, "told", 0, 7);
        e.is(60 - arrived, "told", 1, 7);
        e.call("drop", 1, 0);
        e.call("drop", 0, 0);
        e.call("shut", 1, true);
        e.holds("some are lost without a sign", e.call("strangers", 60) < 60);
        e.is(60 - arrived, "told", 1, 7);
        e.is(0, "told", 0, 7);
    }

    /** All come to the middle, where two signs lead nowhere, but those who begin at the goal. */
    private void misled() {
        e.places(9);
        for (int i = 0; i < 7; i++) {
            e.call("way", 0, i + 1, i, 1);
        }
        e.call("goal", 8, -1);
        e.call("sign", 0, SIGN, 0);
        e.call("sign", 0, SIGN, 0);
        e.call("row", 0, 0, 7);
        e.call("row", 1, 0, 7);
    }

    /** Some 200 calls of 60 strangers come to it. */
    private void astrayAtMost() {
        e.terms(5, "has one more ASTRAY (9999 at most; 0 at first).");
        misled();
        e.is(0, "told", 0, 7);
        int astray = 0;
        for (int i = 0; i < 240 && astray + 60 <= 9998; i++) {
            astray += 60 - e.call("strangers", 60);
        }
        for (int i = 0; i < 120 && astray < 9998; i++) {
            astray += 1 - e.call("strangers", 1);
        }
        e.is(9998, "told", 0, 7);
        int more = 0;
        for (int i = 0; i < 20 && more < 3; i++) {
            more += 1 - e.call("strangers", 1);
            e.is(Math.min(9999, 9998 + more), "told", 0, 7);
        }
        e.holds("three more are lost", more == 3);
        e.call("strangers", 60);
        e.is(9999, "told", 0, 7);
        e.is(0, "told", 1, 7);
        e.is(0, "led");
    }

    private void led() {
        e.promise(37, "The SIGN with most ASTRAY (more than 0); of several the least. NONE.");
        e.refused(NONE, "led");
        misled();
        e.refused(NONE, "led");
        e.call("drop", 0, 0);
        lose(1);
        e.reads(1, "led");
        e.call("row", 0, 0, 7);
        lose(1);
        e.is(1, "told", 0, 7);
        e.is(1, "told", 1, 7);
        e.reads(0, "led");
        e.call("drop", 0, 0);
        lose(1);
        e.reads(1, "led");
        e.call("row", 0, 0, 7);
        lose(1);
        e.reads(0, "led");
        lose(1);
        e.reads(0, "led");
    }

    private void lose(int many) {
        int lost = 0;
        for (int i = 0; i < 40 && lost < many; i++) {
            lost += 1 - e.call("strangers", 1);
        }
        e.holds("so many are lost", lost == many);
    }

    private void ledAtMost() {
        e.promise(37, "The SIGN with most ASTRAY (more than 0); of several the least.");
        misled();
        for (int i = 0; i < 200; i++) {
            e.call("strangers", 60);
        }
        e.is(9999, "told", 0, 7);
        e.call("drop", 0, 0);
        for (int i = 0; i < 240; i++) {
            e.call("strangers", 60);
        }
        e.is(9999, "told", 0, 7);
        e.is(9999, "told", 1, 7);
        e.reads(0, "led");
    }
}
