/** Boundaries of promises 18 to 22 and of terms 3: the tape, texts and their faults, what texts give. */
final class EdgesOfTexts {
    private static final int BAD = Edges.BAD, FULL = Edges.FULL, NONE = Edges.NONE;
    private static final String BLANKS = " ".repeat(96);
    private final Edges e;

    EdgesOfTexts(Edges edges) {
        e = edges;
    }

    void all() {
        feed();
        feedFull();
        trim();
        textsAtMost();
        tapeIsUsedUp();
        textAnswers();
        textTold();
        why();
        longestTexts();
        keys();
        pieces();
        digits();
        names();
        blanks();
        words();
        wordsNeedBlanks();
        otherBytes();
        tests();
        openBrackets();
        openNots();
        endTooSoon();
        firstFault();
        ranks();
        wraps();
        divisions();
        truths();
        lastTold();
        obeyed();
    }

    private void feed() {
        e.promise(18, "Twelve bytes come to THE TAPE, the highest of each number first: how many it has.");
        e.is(12, "feed", 0x6c696768, 0x74202020, 0x20202064);
        e.is(0, "text");
        e.is(12, "feed", 0x6c696768, 0x74202020, 0x20202078);
        e.is(-111, "text");
        e.is(12, "feed", 0x6c696768, 0x74202020, 0x20782064);
        e.is(-109, "text");
        e.is(12, "feed", 0x20202020, 0x20202020, 0x80000000);
        e.is(-108, "text");
        e.is(12, "feed", Integer.MIN_VALUE, Integer.MAX_VALUE, -1);
        e.is(-100, "text");
    }

    private void feedFull() {
        e.promise(18, "FULL: it would have more than 96.");
        for (int i = 1; i <= 8; i++) {
            e.is(12 * i, "feed", i, i, i);
        }
        e.refused(FULL, "feed", 0, 0, 0);
        e.call("trim", 85);
        e.refused(FULL, "feed", 0, 0, 0);
        e.is(85, "count", 9);
        e.call("trim", 84);
        e.is(96, "feed", 0, 0, 0);
        e.refused(FULL, "feed", 0, 0, 0);
        e.is(96, "count", 9);
    }

    private void trim() {
        e.promise(19, "THE TAPE keeps its first n bytes: n. BAD.");
        e.is(0, "trim", 0);
        e.refused(BAD, "trim", 1);
        e.refused(BAD, "trim", -1);
        e.tape("light d*hxyz");
        e.refused(BAD, "trim", 13);
        e.refused(BAD, "trim", -1);
        e.refused(BAD, "trim", Integer.MIN_VALUE);
        e.refused(BAD, "trim", Integer.MAX_VALUE);
        e.is(12, "trim", 12);
        e.is(9, "trim", 9);
        e.refused(BAD, "trim", 10);
        e.is(9, "count", 9);
        e.is(0, "text");
        e.is(2, "textTold", 0, 1);
        e.tape("light d");
        e.is(0, "trim", 0);
        e.is(0, "count", 9);
        e.is(-100, "text");
    }

    private void textsAtMost() {
        e.terms(3, "TEXTS, 14 at most, numbered from 0");
        fourteenTexts();
        e.promise(20, "its number. -100 less the place of its FAULT; FULL.");
        fourteenTexts();
    }

    private void fourteenTexts() {
        for (int i = 0; i < 14; i++) {
            e.text(i, "gate " + i);
            e.is(i + 1, "count", 5);
        }
        e.text(FULL, "gate 1");
        e.is(14, "count", 5);
        e.is(13, "why", 1);
        e.text(FULL, "light 1");
        e.is(NONE, "why", 0);
        e.fault(5, "gate )");
        e.fault(4, "gate");
        e.is(1, "textTold", 13, 0);
        e.refused(BAD, "textTold", 14, 0);
    }

    private void tapeIsUsedUp() {
        e.terms(3, "from THE TAPE (96 bytes at most; an act that reads it uses it up, whatever it answers)");
        e.text(0, "gate 1");
        e.is(0, "count", 9);
        e.fault(5, "gate )");
        e.is(0, "count", 9);
        e.is(-100, "text");
        for (int i = 1; i < 14; i++) {
            e.text(i, "gate 1");
        }
        e.text(FULL, "gate 1");
        e.is(0, "count", 9);
        e.is(-100, "text");
    }

    private void textAnswers() {
        e.promise(20, "-100 less the place of its FAULT; FULL.");
        e.fault(0, "");
        e.fault(95, BLANKS.substring(0, 95) + "x");
        e.fault(96, BLANKS);
        e.fault(96, "gate " + BLANKS.substring(5));
        e.is(0, "count", 5);
        e.is(NONE, "why", 1);
    }

    private void textTold() {
        e.promise(21, "what 0 KEY (0 light, 1 gate, 2 obey), 1 how many NUMBERS and NAMES it has. BAD.");
        String[] texts = {"light 1", "gate m+m*2", "obey !(k)|(s&7)"};
        int[] leaves = {1, 3, 3};
        for (int i = 0; i < 3; i++) {
            e.text(i, texts[i]);
            e.reads(i, "textTold", i, 0);
            e.reads(leaves[i], "textTold", i, 1);
        }
        for (int odd : new int[] {-1, 2, Integer.MIN_VALUE, Integer.MAX_VALUE}) {
            e.refused(BAD, "textTold", 0, odd);
        }
        for (int odd : new int[] {-1, 3, Integer.MIN_VALUE, Integer.MAX_VALUE}) {
            e.refused(BAD, "textTold", odd, 0);
        }
    }

    private void why() {
        e.promise(22, "The TEXT that counts for a KEY. BAD; NONE.");
        for (int key = 0; key < 3; key++) {
            e.refused(NONE, "why", key);
        }
        for (int odd : new int[] {-1, 3, Integer.MIN_VALUE, Integer.MAX_VALUE}) {
            e.refused(BAD, "why", odd);
        }
        e.text(0, "obey 1");
        e.refused(NONE, "why", 0);
        e.refused(NONE, "why", 1);
        e.reads(0, "why", 2);
        e.text(1, "light 1");
        e.reads(1, "why", 0);
        e.refused(BAD, "why", 3);
    }

    /** Texts that fill the tape, and with as many numbers and names as there is room for. */
    private void longestTexts() {
        e.terms(3, "from THE TAPE (96 bytes at most");
        e.text(0, "gate " + BLANKS.substring(0, 90) + "1");
        e.text(1, "gate 1" + BLANKS.substring(0, 90));
        e.text(2, "gate " + "h+".repeat(45) + "h");
        e.is(46, "textTold", 2, 1);
        e.text(3, "light(" + "!h|".repeat(29) + "!9)");
        e.is(30, "textTold", 3, 1);
        e.fault(96, "gate h" + "+h".repeat(44) + " +");
        e.fault(95, "gate h" + "+h".repeat(44) + "+)");
        e.fault(95, "gate h" + "+h".repeat(44) + " h");
        e.places(2);
        e.call("way", 0, 1, 0, 301);
        e.text(4, "gate " + "h+".repeat(42) + "15=44*8");
        e.is(0, "wayTold", 0, 6);
        e.text(5, "gate " + "h+".repeat(42) + "16=44*8");
        e.is(1, "wayTold", 0, 6);
    }

    private void keys() {
        e.terms(3, "KEY E. KEY: light | gate | obey.");
        e.text(0, "light 1");
        e.text(1, "gate 1");
        e.text(2, "obey 1");
        for (String key : new String[] {"light", "gate", "obey"}) {
            for (int i = 0; i < key.length(); i++) {
                e.fault(0, key.substring(0, i) + "x" + key.substring(i + 1) + " 1");
            }
        }
        e.fault(0, "ligh 1");
        e.fault(0, "lights 1");
        e.fault(0, "gat 1");
        e.fault(0, "gates 1");
        e.fault(0, "obe 1");
        e.fault(0, "obeys 1");
        e.fault(0, "h 1");
        e.fault(0, "1");
        e.fault(0, "(light 1)");
        e.fault(0, "Light 1");
        e.fault(0, "GATE 1");
        e.fault(3, "   let 1");
        e.fault(5, "gate gate 1");
        e.fault(6, "light obey");
    }

    private void pieces() {
        e.terms(3, "PIECE: NUMBER (1 to 4 digits) | NAME | ! PIECE | ( E ).");
        e.text(0, "gate 7");
        e.text(1, "gate d");
        e.text(2, "gate !7");
        e.text(3, "gate !d");
        e.text(4, "gate !!d");
        e.text(5, "gate (d)");
        e.text(6, "gate !(d)");
        e.text(7, "gate (!d)");
        e.text(8, "gate (1|d)");
        for (String sign : new String[] {"|", "&", "<", "=", ">", "+", "-", "*", "/", ")"}) {
            e.fault(5, "gate " + sign);
            e.fault(6, "gate !" + sign);
            e.fault(6, "gate (" + sign);
            e.fault(7, "gate h*" + sign);
        }
    }

    private void digits() {
        e.terms(3, "PIECE: NUMBER (1 to 4 digits)");
        e.text(0, "gate 0");
        e.text(1, "gate 9999");
        e.text(2, "gate 0000");
        e.fault(5, "gate 10000");
        e.fault(5, "gate 00000");
        e.terms(3, "a NUMBER of more than 4 digits");
        e.fault(5, "gate 12345");
        e.fault(7, "gate 1+12345");
        e.fault(6, "gate (00001)");
        e.fault(5, "gate 1234567890");
        e.fault(5, "gate 12345h");
        e.text(0, "gate 1234+(5678)");
    }

    private void names() {
        e.terms(3, "NAMES, each one letter: of light h HOUR, d DAY, r how many ROWS; of gate h, d, m MINUTES; of obey k KIND, s SEEN, w WHEELS, h.");
        String[] keys = {"light ", "gate ", "obey "};
        String[] has = {"hdr", "hdm", "kswh"};
        for (int key = 0; key < 3; key++) {
            e.fresh();
            int texts = 0;
            for (char name = 'a'; name <= 'z'; name++) {
                boolean is = has[key].indexOf(name) >= 0;
                e.text(is ? texts : -100 - keys[key].length(), keys[key] + name);
                texts += is ? 1 : 0;
            }
            e.fault(keys[key].length(), keys[key] + has[key].charAt(0) + has[key].charAt(0));
            e.fault(keys[key].length(), keys[key] + "H");
        }
    }

    private void blanks() {
        e.terms(3, "Between words and signs, and at the ends, there may be blanks (byte 32)");
        e.text(0, "  gate  (  h  <  1  )  |  !  d  ");
        e.text(1, "gate(h<1)|!d");
        e.text(2, "gate!h");
        e.fault(4, "gate" + (char) 9 + "h");
        e.fault(4, "gate" + (char) 10 + "h");
        e.fault(5, "gate " + (char) 0 + "h");
        e.fault(6, "gate h" + (char) 31);
        e.fault(6, "gate h" + (char) 160);
        e.fault(0, (char) 9 + "gate h");
        e.fault(7, "gate h h");
        e.fault(7, "gate 1 2");
        e.fault(0, "ga te h");
    }

    private void words() {
        e.terms(3, "A word is a row of letters a .. z, or of digits, as long as it goes");
        e.fault(0, "gateh");
        e.fault(5, "gate hd");
        e.fault(5, "gate dh");
        e.fault(6, "gate (zz)");
        e.fault(5, "gate aa");
        e.fault(5, "gate hz");
        e.fault(5, "gate ha");
        e.fault(0, "gatez 1");
        e.fault(0, "gatea 1");
        e.fault(6, "gate h" + (char) ('a' - 1));
        e.fault(6, "gate h" + (char) ('z' + 1));
        e.fault(7, "gate 1" + (char) ('0' - 1));
        e.fault(6, "gate 1" + (char) ('9' + 1));
        e.fault(4, "gate" + (char) ('a' - 1) + "1");
        e.fault(4, "gate" + (char) ('z' + 1) + "1");
        e.is(0, "count", 5);
        e.text(0, "gate 09");
        e.fault(7, "gate 09:");
    }

    private void wordsNeedBlanks() {
        e.terms(3, "a word right behind another one needs one.");
        e.fault(4, "gate1");
        e.text(0, "gate 1");
        e.fault(6, "gate h1");
        e.fault(6, "gate 1h");
        e.fault(9, "gate 1234h");
        e.terms(3, "(a word that needs a blank ahead of it");
        e.fault(5, "light8");
        e.text(0, "light 8");
        e.text(1, "light(8)");
        e.fault(5, "light8888");
        e.fault(5, "light88888");
        e.fault(8, "light (h8)");
    }

    private void otherBytes() {
        e.terms(3, "any other byte is a sign by itself.");
        for (int b = 0; b < 256; b++) {
            boolean word = b >= 'a' && b <= 'z' || b >= '0' && b <= '9';
            if (b % 16 == 0) {
                e.fresh();
            }
            if (!word && b != ' ' && b != '(' && b != '!') {
                e.fault(5, "gate " + (char) b + "h");
            }
            if (!word && b != ' ' && "|&<=>+-*/".indexOf(b) < 0) {
                e.fault(6, "gate h" + (char) b + "h");
            }
        }
        e.fresh();
        e.fault(7, "gate h<<d");
        e.fault(7, "gate h==d");
        e.fault(7, "gate h||d");
        e.fault(7, "gate h&&d");
        e.fault(7, "gate h<=d");
        e.text(0, "gate !!d");
        e.text(1, "gate ((d))");
    }

    private void tests() {
        e.terms(3, "TEST: SUM [ (< | = | >) SUM ]");
        String[] signs = {"<", "=", ">"};
        int texts = 0;
        for (String first : signs) {
            e.text(texts, "gate h" + first + "d");
            texts++;
            for (String second : signs) {
                e.fault(8, "gate h" + first + "d" + second + "m");
            }
        }
        e.text(3, "gate h<d&d<m|m<h");
        e.text(4, "gate (h<d)<m");
        e.text(5, "gate h<(d<m)");
        e.fault(10, "gate h<d+1<m");
        e.fault(12, "gate (h<d)<m=1");
        e.fault(9, "gate (h<d=1)");
    }

    private void openBrackets() {
        e.terms(3, "the ninth ( that would be open within others");
        String eight = "(".repeat(8), closing = ")".repeat(8);
        e.text(0, "gate " + eight + "h" + closing);
        e.fault(13, "gate " + eight + "(h)" + closing);
        e.fault(13, "gate " + eight + "(((((((");
        e.fault(22, "gate " + eight + "h" + closing + ")");
        e.fault(21, "gate " + eight + "h" + closing.substring(1));
        e.text(1, "gate " + eight + "h)|(d" + closing);
        e.fault(17, "gate " + eight + "h)|((d)" + closing);
        e.text(2, "gate " + "(h)+".repeat(20) + "(d)");
        e.fault(17, "gate (h)+" + eight + "(h)" + closing);
    }

    private void openNots() {
        e.terms(3, "the ninth ! likewise, each by itself)");
        String eight = "!".repeat(8);
        e.text(0, "gate " + eight + "h");
        e.fault(13, "gate " + eight + "!h");
        e.text(1, "gate " + eight + "(h)");
        e.fault(14, "gate " + eight + "(!h)");
        e.text(2, "gate " + "!(".repeat(8) + "h" + ")".repeat(8));
        e.fault(21, "gate " + "!(".repeat(8) + "!h" + ")".repeat(8));
        e.fault(21, "gate " + "!(".repeat(8) + "(h)" + ")".repeat(8));
        e.text(3, "gate " + eight + "h+" + eight + "d");
        e.text(4, "gate (" + eight + "h)+(" + eight + "d)");
        e.text(5, "gate " + "!h+".repeat(20) + "!d");
        e.text(6, "gate !(" + "!".repeat(7) + "h+" + "!".repeat(7) + "d)");
        e.fault(14, "gate !(" + "!".repeat(7) + "!h)");
    }

    private void endTooSoon() {
        e.terms(3, "the end (the place behind the last byte), if it comes too soon.");
        String[] cut = {"", " ", "   ", "gate", "gate ", "gate   ", "gate (", "gate (h", "gate (h  ", "gate h+", "gate h+ ", "gate !", "gate ((h)", "gate h<",
            "gate h|", "light", "obey (k<s)*"};
        for (String text : cut) {
            e.fault(text.length(), text);
        }
        e.is(0, "count", 5);
        e.text(0, "gate h");
        e.text(1, "gate (h)  ");
    }

    private void firstFault() {
        e.terms(3, "FAULT: the first byte of the first word or sign with which no TEXT goes on");
        e.fault(5, "gate ) (");
        e.fault(7, "gate h+abc+?");
        e.fault(5, "gate ?(((((((((");
        e.fault(0, "?gate 12345");
        e.fault(7, "gate h 12345");
        e.fault(9, "gate h+  12345");
        e.fault(6, "gate h)");
        e.fault(6, "gate h(d)");
        e.fault(8, "gate (h)d");
        e.fault(8, "gate (h)(d)");
        e.fault(6, "gate h!");
        e.fault(6, "gate ()");
        e.fault(7, "gate (())");
        e.fault(7, "gate (()?");
        e.fault(9, "gate ((h+)?");
        e.fault(8, "gate ((()))?");
        e.fault(5, "gate -1");
        e.fault(7, "gate h+-1");
        e.text(0, "gate 0-1");
    }

    /** Whether a gate of 5 minutes is open at 8 of day 0 by a text. */
    private void gives(int open, String expression) {
        e.fresh();
        e.places(2);
        e.call("way", 0, 1, 0, 305);
        e.text(0, "gate " + expression);
        e.is(open, "wayTold", 0, 6);
    }

    private void ranks() {
        e.terms(3, "E, the loosest first: OR: AND { | AND }; AND: TEST { & TEST }; TEST: SUM [ (< | = | >) SUM ]; SUM: TERM { (+ | -) TERM }; "
            + "TERM: PIECE { (* | /) PIECE }");
        gives(1, "1|0&0");
        gives(0, "(1|0)&0");
        gives(1, "0&0|1");
        gives(0, "0&(0|1)");
        gives(1, "1&2<3");
        gives(1, "3<2|1");
        gives(0, "1+1<2");
        gives(1, "2*3+1=7");
        gives(1, "1+2*3=7");
        gives(1, "9-3-2=4");
        gives(1, "9-3+2=8");
        gives(1, "16/4/2=2");
        gives(1, "7/2*2=6");
        gives(1, "6*7/4=10");
        gives(1, "!0+1=2");
        gives(1, "!1=0");
        gives(1, "!(1=0)");
        gives(1, "!m*m=0");
    }

    private void wraps() {
        e.terms(3, "Ints wrap;");
        gives(1, "4096*4096*127+4096*4095>0");
        gives(1, "4096*4096*128<0");
        gives(1, "4096*4096*128-1>0");
        gives(1, "0-4096*4096*128<0");
        gives(0, "4096*4096*256");
        gives(1, "4096*4096*256+1=1");
        gives(1, "4096*4096*128+4096*4096*128=0");
        gives(1, "(4096*4096*128-1)*2=0-2");
        gives(1, "4096*4096*128/(0-1)=4096*4096*128");
    }

    private void divisions() {
        e.terms(3, "/ is 0 by 0;");
        gives(0, "7/0");
        gives(0, "0/0");
        gives(0, "7/(h-8)");
        gives(1, "7/(h-7)");
        gives(1, "7/0+1=1");
        gives(1, "4096*4096*128/0=0");
        e.terms(0, "/ cuts towards 0.");
        gives(1, "7/2=3");
        gives(1, "(0-7)/2=0-3");
        gives(1, "7/(0-2)=0-3");
        gives(1, "(0-7)/(0-2)=3");
        gives(0, "(0-1)/2");
        gives(0, "1/2");
        gives(1, "2/2");
    }

    private void truths() {
        e.terms(3, "tests, & | ! give 1 or 0 (what is not 0 is true; both sides are worked out).");
        gives(1, "(2<3)=1");
        gives(1, "(3<3)=0");
        gives(1, "(4<3)=0");
        gives(1, "(3=3)=1");
        gives(1, "(2=3)=0");
        gives(1, "(4>3)=1");
        gives(1, "(3>3)=0");
        gives(1, "(2>3)=0");
        gives(1, "(5&7)=1");
        gives(1, "(5&0)=0");
        gives(1, "(0&5)=0");
        gives(1, "(5|7)=1");
        gives(1, "(0|7)=1");
        gives(1, "(7|0)=1");
        gives(1, "(0|0)=0");
        gives(1, "!0=1");
        gives(1, "!1=0");
        gives(1, "!7=0");
        gives(1, "!(0-1)=0");
        gives(1, "!!7=1");
        gives(1, "((0-1)&(0-2))=1");
        gives(1, "(0-1|0)=1");
        gives(0, "0&1/0");
        gives(1, "1|1/0");
        gives(1, "(0-1)<0");
    }

    private void lastTold() {
        e.terms(3, "Of a KEY that TEXT counts that was told last.");
        e.places(2);
        e.call("way", 0, 1, 0, 301);
        e.text(0, "gate 0");
        e.is(0, "wayTold", 0, 6);
        e.text(1, "gate 1");
        e.is(1, "wayTold", 0, 6);
        e.is(1, "why", 1);
        e.text(2, "obey 0");
        e.is(1, "why", 1);
        e.is(1, "wayTold", 0, 6);
        e.fault(6, "gate 0)");
        e.is(1, "why", 1);
        for (int i = 3; i < 14; i++) {
            e.text(i, "light 0");
        }
        e.text(FULL, "gate 0");
        e.is(1, "why", 1);
        e.is(1, "wayTold", 0, 6);
        e.is(2, "why", 2);
        e.is(13, "why", 0);
    }

    private void obeyed() {
        e.terms(3, "OBEYED is a SIGN, if obey is not 0 (without a TEXT: it is).");
        e.corridor(3);
        e.call("goal", 2, -1);
        e.call("sign", 1, 0, 0);
        e.call("row", 0, 0, 4);
        e.is(1, "told", 0, 9);
        e.is(0, "walk", 1, 0, 0, 4);
        String[] texts = {"obey 0", "obey 1", "obey 0-1", "obey k", "obey s=3", "obey w", "obey !w", "obey h<8"};
        int[] without = {0, 1, 1, 0, 1, 0, 1, 0};
        int[] with = {0, 1, 1, 0, 1, 1, 0, 0};
        for (int i = 0; i < texts.length; i++) {
            e.text(i, texts[i]);
            e.is(without[i], "told", 0, 9);
            e.is(without[i] == 1 ? 0 : NONE, "walk", 1, 0, 0, 4);
            e.is(with[i] == 1 ? 0 : NONE, "walk", 1, 0, 1, 4);
        }
    }
}
