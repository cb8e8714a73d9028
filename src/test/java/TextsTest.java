/** Promises 18 to 22: the tape and the texts. */
public final class TextsTest {
    private static final int BAD = StrangerSigns.BAD, FULL = StrangerSigns.FULL, NONE = StrangerSigns.NONE;
    private static final Due due = new Due();

    public static void main(String[] args) {
        tape();
        good();
        faults();
        depths();
        worth();
        namesOfKeys();
        counting();
        due.end();
    }

    private static void tape() {
        StrangerSigns x = new StrangerSigns();
        due.is("trim an empty tape", x.trim(0), 0);
        due.is("trim beyond", x.trim(1), BAD);
        for (int i = 1; i <= 8; i++) {
            due.is("feed", x.feed(0x6c696768, 0x74206831, 0x20202020), 12 * i);
        }
        due.is("feed beyond 96", x.feed(0, 0, 0), FULL);
        due.is("trim -1", x.trim(-1), BAD);
        due.is("trim 97", x.trim(97), BAD);
        due.is("trim", x.trim(85), 85);
        due.is("85 and 12", x.feed(0, 0, 0), FULL);
        due.is("trim again", x.trim(84), 84);
        due.is("84 and 12", x.feed(0, 0, 0), 96);
        due.is("the tape has", x.count(9), 96);
        x.trim(7);
        due.is("the highest byte comes first", x.text(), 0);
        due.is("a text uses it up", x.count(9), 0);
        Houses.feed(x, "light )");
        due.is("a fault", x.text(), -106);
        due.is("a fault uses it up too", x.count(9), 0);
    }

    private static void good() {
        String[] texts = {"light h", "  light  h  ", "gate(m)", "obey!k", "light 0", "gate 9999", "obey k<s&w=0|h>3", "light h*d/r+1-2",
            "light !!!!!!!!h", "light ((((((((h))))))))", "obey (k+s)*(w-h)<3=0", "gate 1<2&3>2|4=4"};
        int[] leaves = {1, 1, 1, 1, 1, 1, 6, 5, 1, 1, 6, 6};
        StrangerSigns x = new StrangerSigns();
        for (int i = 0; i < texts.length; i++) {
            boolean chained = texts[i].contains("<3=0");
            due.is(texts[i], Houses.text(x, texts[i]), chained ? -118 : x.count(5) - 1);
            if (!chained) {
                due.is("leaves of " + texts[i], x.textTold(x.count(5) - 1, 1), leaves[i]);
            }
        }
        due.is("key light", x.textTold(0, 0), 0);
        due.is("key gate", x.textTold(2, 0), 1);
        due.is("key obey", x.textTold(3, 0), 2);
        due.is("textTold what 2", x.textTold(0, 2), BAD);
        due.is("textTold what -1", x.textTold(0, -1), BAD);
        due.is("textTold text 11", x.textTold(11, 0), BAD);
        due.is("textTold text -1", x.textTold(-1, 0), BAD);
    }

    private static void faults() {
        StrangerSigns x = new StrangerSigns();
        fault(x, "", 0);
        fault(x, "   ", 3);
        fault(x, "lights h", 0);
        fault(x, "  ligh t", 2);
        fault(x, "Light h", 0);
        fault(x, "lighth", 0);
        fault(x, "5", 0);
        fault(x, "(", 0);
        fault(x, "light", 5);
        fault(x, "light  ", 7);
        fault(x, "light5", 5);
        fault(x, "light light", 6);
        fault(x, "light hh", 6);
        fault(x, "light hz", 6);
        fault(x, "light ah", 6);
        fault(x, "light m", 6);
        fault(x, "light k", 6);
        fault(x, "gate r", 5);
        fault(x, "gate w", 5);
        fault(x, "obey d", 5);
        fault(x, "obey m", 5);
        fault(x, "light 12345", 6);
        fault(x, "light 00000", 6);
        fault(x, "light 1 2", 8);
        fault(x, "light 1h", 7);
        fault(x, "light h1", 7);
        fault(x, "light h h", 8);
        fault(x, "light h)", 7);
        fault(x, "light (h", 8);
        fault(x, "light (h  ", 10);
        fault(x, "light ()", 7);
        fault(x, "light h!", 7);
        fault(x, "light h+", 8);
        fault(x, "light h+ ", 9);
        fault(x, "light h+*d", 8);
        fault(x, "light -h", 6);
        fault(x, "light h<d<r", 9);
        fault(x, "light h==d", 8);
        fault(x, "light h&&d", 8);
        fault(x, "light h||d", 8);
        fault(x, "light h\td", 7);
        fault(x, "light h" + (char) 233, 7);
        fault(x, "light h" + (char) 0, 7);
        fault(x, "light (h<d", 10);
        fault(x, "light (h<d)<(d<(1<2)", 20);
        due.is("no text came of it", x.count(5), 0);
    }

    private static void fault(StrangerSigns x, String text, int at) {
        due.is("'" + text + "'", Houses.text(x, text), -100 - at);
    }

    private static void depths() {
        StrangerSigns x = new StrangerSigns();
        fault(x, "light (((((((((h)))))))))", 14);
        fault(x, "light !!!!!!!!!h", 14);
        due.is("each by itself", Houses.text(x, "light !(!(!(!(!(!(!(!(h))))))))"), 0);
        fault(x, "light !(!(!(!(!(!(!(!(!h))))))))", 22);
        fault(x, "light !(!(!(!(!(!(!(!((h))))))))", 22);
        due.is("one behind the other", Houses.text(x, "light (h)+(h)+(h)+(h)+(h)+(h)+(h)+(h)+(h)+(h)"), 1);
        due.is("likewise of !", Houses.text(x, "light !h+!h+!h+!h+!h+!h+!h+!h+!h+!h"), 2);
        due.is("a ! within brackets ends with them", Houses.text(x, "light (!!!!!!!!h)+!!!!!!!!h"), 3);
    }

    /** What a text gives is seen by whether it equals a number: a light is lit then. */
    private static void worth() {
        worth("1+2*3", 7);
        worth("(1+2)*3", 9);
        worth("9-3-2", 4);
        worth("99/5/2", 9);
        worth("7/2*2", 6);
        worth("5/0", 0);
        worth("0-7/2", -3);
        worth("(0-7)/2", -3);
        worth("!0", 1);
        worth("!7", 0);
        worth("!!7", 1);
        worth("!h+1", 1);
        worth("!(h-8)", 1);
        worth("2<3", 1);
        worth("3<3", 0);
        worth("3=3", 1);
        worth("4>3", 1);
        worth("3>3", 0);
        worth("1+1=2", 1);
        worth("5&3", 1);
        worth("5&0", 0);
        worth("0|7", 1);
        worth("0|0", 0);
        worth("1|0&0", 1);
        worth("(1|0)&0", 0);
        worth("2<3&4", 1);
        worth("9999*9999*9999", 9999 * 9999 * 9999);
        worth("h*100+d*10+r", 800);
        worth("0007", 7);
    }

    private static void worth(String text, int want) {
        StrangerSigns x = Houses.withPlaces(1);
        x.sign(0, 3, 0);
        due.is(text, Houses.text(x, "light (" + text + ")-(" + told(want) + ")"), 0);
        due.is(text + " is " + want, x.told(0, 6), 0);
        Houses.text(x, "light (" + text + ")-(" + told(want) + ")+1");
        due.is(text + " and 1 is not 0", x.told(0, 6), 1);
    }

    private static String told(int v) {
        if (v >= 0 && v <= 9999) {
            return "" + v;
        }
        if (v < 0 && v >= -9999) {
            return "0-" + -v;
        }
        // Any int, in pieces of at most four digits, wraps to itself.
        int sign = v < 0 ? -1 : 1;
        long rest = Math.abs((long) v);
        return sign < 0 ? "0-" + rest / 10000 / 1000 + "*1000*5000*2-" + rest / 10000 % 1000 + "*5000*2-" + rest % 10000
            : rest / 10000 / 1000 + "*1000*5000*2+" + rest / 10000 % 1000 + "*5000*2+" + rest % 10000;
    }

    private static void namesOfKeys() {
        StrangerSigns x = Houses.withPlaces(2);
        x.way(0, 1, 0, 305);
        x.way(0, 1, 1, 306);
        x.way(0, 1, 2, 6);
        Houses.text(x, "gate m*100+h*10+d=580");
        due.is("a gate of 5 minutes", x.wayTold(0, 6), 1);
        due.is("a gate of 6 minutes", x.wayTold(1, 6), 0);
        due.is("no gate", x.wayTold(2, 6), 1);
        x.sign(0, 1, 0);
        x.sign(0, 5, 9);
        Houses.text(x, "obey k*1000+s*100+w*10+h=1508");
        due.is("an over", x.told(0, 9), 1);
        due.is("a hand", x.told(1, 9), 0);
        x.hours(1);
        due.is("an hour on", x.told(0, 9), 0);
        x.goal(1, -1);
        x.row(0, 0, 0);
        Houses.text(x, "gate 1");
        Houses.text(x, "obey w");
        due.is("not obeyed without wheels", x.walk(0, 0, 0, 4), NONE);
        due.is("obeyed with wheels", x.walk(0, 0, 1, 4), 0);
        x.sign(1, 3, 0);
        Houses.text(x, "light r=2&d=0");
        x.row(2, 0, 0);
        due.is("one row", x.told(2, 6), 0);
        x.row(2, 0, 0);
        due.is("two rows", x.told(2, 6), 1);
        x.hours(24);
        due.is("a day on", x.told(2, 6), 0);
    }

    private static void counting() {
        StrangerSigns x = new StrangerSigns();
        for (int key = 0; key < 3; key++) {
            due.is("none counts", x.why(key), NONE);
        }
        due.is("key 3", x.why(3), BAD);
        due.is("key -1", x.why(-1), BAD);
        Houses.text(x, "gate 1");
        Houses.text(x, "obey 1");
        Houses.text(x, "gate 0");
        due.is("no light", x.why(0), NONE);
        due.is("the last gate", x.why(1), 2);
        due.is("the obey", x.why(2), 1);
        for (int i = 3; i < 14; i++) {
            due.is("text", Houses.text(x, "light 1"), i);
        }
        Houses.feed(x, "gate 1");
        due.is("text 15", x.text(), FULL);
        due.is("the tape is used up", x.count(9), 0);
        due.is("the fault ahead of FULL", Houses.text(x, "gate ?"), -105);
        due.is("texts", x.count(5), 14);
        due.is("the gate still", x.why(1), 2);
    }
}
