import java.lang.management.ManagementFactory;

/** What calls make anew: a text is all, so that any run of calls stays far below the room that it has. */
public final class RoomTest {
    private static final com.sun.management.ThreadMXBean BEAN = (com.sun.management.ThreadMXBean) ManagementFactory.getThreadMXBean();
    private static final Due due = new Due();
    private static int sum = 0;

    public static void main(String[] args) {
        StrangerSigns x = full();
        everyCall(x, 3);
        long before = made();
        everyCall(x, 100);
        due.holds("calls make nothing", made() - before < 4096);
        before = made();
        new StrangerSigns();
        due.holds("an object has a small room", made() - before < 100000);
        before = made();
        for (int i = 0; i < 14; i++) {
            x.text();
        }
        due.holds("no text, nothing made", made() - before < 4096);
        due.holds("answers came", sum != 0);
        due.end();
    }

    private static long made() {
        return BEAN.getThreadAllocatedBytes(Thread.currentThread().getId());
    }

    private static StrangerSigns full() {
        StrangerSigns x = Houses.withPlaces(12);
        for (int i = 0; i < 11; i++) {
            x.way(i, i + 1, 0, 301 + i);
        }
        for (int i = 0; i < 9; i++) {
            x.way(i, i + 2, 2, 301 + i);
        }
        for (int i = 0; i < 10; i++) {
            x.goal(i, i % 5 - 1);
        }
        for (int i = 0; i < 14; i++) {
            x.sign(i % 12, i % 6, 5);
            for (int j = 0; j < 6; j++) {
                x.row(i, (i + j) % 14, j);
            }
        }
        for (int i = 0; i < 6; i++) {
            x.choose(i);
        }
        Houses.text(x, "light h+d*3>r&(h=1|h<4)|1");
        Houses.text(x, "gate h+d*3>m&(h=1|h<4)|1");
        Houses.text(x, "obey k+s*3>w&(h=1|h<4)|1");
        x.sheet(0, 0, 24);
        x.sheet(1, 0, 24);
        return x;
    }

    private static void everyCall(StrangerSigns x, int rounds) {
        for (int i = 0; i < rounds; i++) {
            sum += x.place() + x.way(0, 1, 0, 1) + x.wayTold(i % 20, 6) + x.shut(i % 20, i % 2 == 0) + x.goal(0, 0) + x.goalTold(0, 0) + x.hours(1);
            sum += x.sign(0, 0, 0) + x.told(0, 6) + x.as(0, 0) + x.turns(0, 4) + x.row(0, 0, 0) + x.rowTold(0, 0, 0) + x.drop(0, 0) + x.aim(0, 0, 0);
            sum += x.mend(0) + x.mend(1) + x.undo() + x.feed(1, 2, 3) + x.trim(0) + x.textTold(0, 1) + x.why(0);
            sum += x.walk(i % 12, i % 10, i % 2, 0) + x.via(i % 12, i % 10, i % 2, 2) + x.far(i % 12, i % 10, 0) + x.next(i % 12, i % 10, 0);
            sum += x.breaches(0) + x.breach(3, 0) + x.needs(i % 12, 0) + x.wrong(0) + x.clear() + x.choose(i % 12) + x.fewest(i % 10, 0);
            sum += x.seed(i) + x.strangers(60) + x.led() + x.sheet(2, 1, 24) + x.mark(0, 3, i) + x.fill(4, 0) + x.copy(0, 0, 1, 3, 9);
            sum += x.lay(0, 1, 0) + x.lay(1, 2, 0) + x.lay(2, 3, 9) + x.ask(0, 0) + x.item(1, 3) + x.rest(2, 4);
            sum += x.keep() + x.tell(1) + x.check(30) + x.back() + x.count(4);
        }
    }
}
