import java.lang.reflect.Method;
import java.util.ArrayList;
import java.util.HashMap;
import java.util.List;
import java.util.Map;
import java.util.Random;

/** Drawn runs of up to 512 calls on the class and on the plain model; every answer must be the same. */
public final class ModelTest {
    private static final int CALLS = 512;
    private static final Map<String, Method> CLASS = methods(StrangerSigns.class);
    private static final Map<String, Method> MODEL = methods(PlainModel.class);
    private static final Map<String, Map<String, Integer>> answers = new HashMap<>();

    private final Random random;
    private final StrangerSigns x = new StrangerSigns();
    private final PlainModel y = new PlainModel();
    private final List<String> run = new ArrayList<>();
    private boolean same = true;

    private ModelTest(long seed) {
        random = new Random(seed);
    }

    public static void main(String[] args) throws Exception {
        int runs = args.length > 0 ? Integer.parseInt(args[0]) : 400;
        long first = args.length > 1 ? Long.parseLong(args[1]) : 1;
        for (long seed = first; seed < first + runs; seed++) {
            ModelTest test = new ModelTest(seed);
            test.drawRun();
            if (!test.same) {
                System.out.println("run " + seed + ", " + test.run.size() + " calls:");
                test.run.forEach(System.out::println);
                System.exit(1);
            }
        }
        if (args.length > 2) {
            answers.keySet().stream().sorted().forEach(k -> System.out.println(k + " " + answers.get(k)));
        }
        System.out.println(runs + " runs, all answers the same");
    }

    private static Map<String, Method> methods(Class<?> type) {
        Map<String, Method> found = new HashMap<>();
        for (Method m : type.getDeclaredMethods()) {
            if (java.lang.reflect.Modifier.isPublic(m.getModifiers()) && !java.lang.reflect.Modifier.isStatic(m.getModifiers())) {
                found.put(m.getName(), m);
            }
        }
        return found;
    }

    private int call(String name, Object... args) throws Exception {
        if (!same || run.size() >= CALLS) {
            return 0;
        }
        int due = (int) MODEL.get(name).invoke(y, args);
        int got = (int) CLASS.get(name).invoke(x, args);
        run.add(name + List.of(args) + " answered " + got + (got == due ? "" : ", due is " + due));
        same = got == due;
        String sort = got <= -1000000001 && got >= -1000000014 ? "" + got : got < 0 ? "below 0" : got == 0 ? "0" : "above 0";
        answers.computeIfAbsent(name, k -> new HashMap<>()).merge(sort, 1, Integer::sum);
        return got;
    }

    private void drawRun() throws Exception {
        build();
        boolean quiet = random.nextBoolean();
        while (same && run.size() < CALLS) {
            draw(quiet);
        }
    }

    private void build() throws Exception {
        int places = random.nextInt(13);
        for (int i = 0; i < places; i++) {
            call("place");
        }
        int ways = random.nextInt(30);
        boolean chain = random.nextInt(3) > 0;
        for (int i = 0; i < ways; i++) {
            int one = chain && i < places - 1 ? i : near(places);
            int other = chain && i < places - 1 ? i + 1 : near(places);
            call("way", one, other, chain && i < places - 1 ? 2 * random.nextInt(2) : near(8), waySort());
        }
        int goals = random.nextInt(11);
        for (int i = 0; i < goals; i++) {
            call("goal", near(places), random.nextInt(5) - 1);
        }
        int signs = random.nextInt(15);
        for (int i = 0; i < signs; i++) {
            call("sign", near(places), near(6), 1 + random.nextInt(9));
        }
        int rows = random.nextInt(60);
        for (int i = 0; i < rows; i++) {
            call("row", near(signs), random.nextInt(14), arrow());
        }
        if (random.nextBoolean()) {
            call("mend", random.nextInt(2));
        }
        if (random.nextBoolean()) {
            buildSheets();
        }
    }

    private void buildSheets() throws Exception {
        for (int sheet = 0; sheet < 3; sheet++) {
            call("sheet", sheet, sheet / 2, 4 + random.nextInt(12));
            for (int i = 0; i < 8; i++) {
                call("mark", sheet, random.nextInt(8), random.nextInt(8) == 0 ? random.nextInt() : random.nextInt(8));
            }
        }
        for (int slot = 0; slot < 5; slot++) {
            drawLay();
        }
    }

    private int arrow() {
        return random.nextInt(3) > 0 ? 2 * random.nextInt(4) : near(8);
    }

    private int waySort() {
        int sort = random.nextInt(3) > 0 ? 0 : near(4);
        return 100 * sort + (random.nextInt(20) == 0 ? random.nextInt(100) - 20 : 1 + random.nextInt(random.nextBoolean() ? 3 : 30));
    }

    /** Mostly within a bound, now and then just outside or far. */
    private int near(int bound) {
        int odd = random.nextInt(60);
        if (odd == 0) {
            return -1;
        }
        if (odd == 1 || bound <= 0) {
            return bound;
        }
        return odd == 2 ? random.nextInt() : random.nextInt(bound);
    }

    private int places() {
        return near(y.count(0));
    }

    private int goals() {
        return near(y.count(2));
    }

    private int signs() {
        return near(y.count(3));
    }

    private void draw(boolean quiet) throws Exception {
        switch (random.nextInt(7)) {
            case 0 -> drawHouse(quiet);
            case 1 -> drawSigns(quiet);
            case 2 -> drawTexts(quiet);
            case 3, 4 -> drawWalks();
            case 5 -> drawSheets();
            default -> drawImages();
        }
    }

    private void drawHouse(boolean quiet) throws Exception {
        switch (random.nextInt(quiet ? 6 : 9)) {
            case 0 -> call("wayTold", near(y.count(1)), near(8));
            case 1 -> call("shut", near(y.count(1)), random.nextInt(3) == 0);
            case 2 -> call("goalTold", goals(), near(2));
            case 3 -> call("hours", random.nextInt(10) == 0 ? random.nextInt(52) - 2 : 1 + random.nextInt(12));
            case 4 -> call("count", near(13));
            case 5 -> call("seed", random.nextInt());
            case 6 -> call("place");
            case 7 -> call("way", places(), places(), near(8), waySort());
            default -> call("goal", places(), random.nextInt(7) - 2);
        }
    }

    private void drawSigns(boolean quiet) throws Exception {
        switch (random.nextInt(quiet ? 10 : 11)) {
            case 0 -> call("told", signs(), near(10));
            case 1 -> call("as", signs(), near(6));
            case 2 -> call("turns", signs(), near(5));
            case 3, 4 -> call("row", signs(), near(14), arrow());
            case 5 -> call("rowTold", signs(), near(5), near(2));
            case 6 -> call("drop", signs(), near(4));
            case 7 -> call("aim", signs(), near(4), near(8));
            case 8, 9 -> call("undo");
            default -> call("sign", places(), near(6), near(101));
        }
    }

    private void drawTexts(boolean quiet) throws Exception {
        switch (random.nextInt(5)) {
            case 0 -> call("textTold", near(y.count(5)), near(2));
            case 1 -> call("why", near(3));
            case 2 -> {
                if (random.nextInt(6) == 0) {
                    call("feed", random.nextInt(), random.nextInt(), random.nextInt());
                } else {
                    call("trim", near(1 + y.count(9)));
                }
            }
            default -> feedText();
        }
    }

    private void feedText() throws Exception {
        String key = new String[] {"light", "gate", "obey"}[random.nextInt(3)];
        String names = key.equals("light") ? "hdr" : key.equals("gate") ? "hdm" : "kswh";
        StringBuilder text = new StringBuilder(blanks() + key + (random.nextInt(9) == 0 ? "" : " "));
        expression(text, names, random.nextInt(5));
        int spoilt = random.nextInt(3) == 0 ? 1 + random.nextInt(2) : 0;
        for (int i = 0; i < spoilt; i++) {
            spoil(text);
        }
        while (text.length() % 12 != 0) {
            text.append(' ');
        }
        call("trim", 0);
        for (int i = 0; i + 12 <= text.length(); i += 12) {
            call("feed", four(text, i), four(text, i + 4), four(text, i + 8));
        }
        if (random.nextInt(4) == 0) {
            call("trim", Math.max(0, y.count(9) - random.nextInt(14)));
        }
        call("text");
        call("told", signs(), random.nextBoolean() ? 6 : 9);
        call("wayTold", near(y.count(1)), 6);
    }

    private static int four(StringBuilder text, int at) {
        return text.charAt(at) << 24 | text.charAt(at + 1) << 16 | text.charAt(at + 2) << 8 | text.charAt(at + 3);
    }

    private String blanks() {
        return random.nextInt(6) == 0 ? "  ".substring(random.nextInt(2)) : "";
    }

    private void expression(StringBuilder text, String names, int depth) {
        int pieces = 1 + random.nextInt(random.nextInt(3) == 0 ? 8 : 3);
        boolean tested = false;
        for (int i = 0; i < pieces; i++) {
            if (i > 0) {
                String signs = tested && random.nextInt(20) > 0 ? "|&+-*/" : "|&<=>+-*/<=>";
                char sign = signs.charAt(random.nextInt(signs.length()));
                tested = "<=>".indexOf(sign) >= 0 || tested && sign != '|' && sign != '&';
                text.append(sign).append(blanks());
            }
            piece(text, names, depth);
        }
    }

    private void piece(StringBuilder text, String names, int depth) {
        switch (random.nextInt(depth > 0 ? 7 : 5)) {
            case 0, 1 -> text.append(names.charAt(random.nextInt(names.length())));
            case 2 -> text.append(random.nextInt(24));
            case 3 -> text.append(random.nextInt(new int[] {10, 100, 1000, 10000, 20000}[random.nextInt(5)]));
            case 4 -> {
                int nots = random.nextInt(12) == 0 ? 1 + random.nextInt(9) : 1;
                text.append("!".repeat(nots));
                text.append(names.charAt(random.nextInt(names.length())));
            }
            default -> {
                int brackets = random.nextInt(12) == 0 ? 1 + random.nextInt(9) : 1;
                String open = random.nextInt(4) == 0 ? "!(" : "(";
                text.append(open.repeat(brackets)).append(blanks());
                expression(text, names, depth - 1);
                text.append(")".repeat(brackets));
            }
        }
        text.append(blanks());
    }

    private void spoil(StringBuilder text) {
        int at = random.nextInt(text.length());
        String odd = "()!|&<=>+-*/ hdrmksw059x?\t\u00e9\u0000A";
        char c = odd.charAt(random.nextInt(odd.length()));
        switch (random.nextInt(3)) {
            case 0 -> text.setCharAt(at, c);
            case 1 -> text.insert(at, c);
            default -> text.deleteCharAt(at);
        }
    }

    private void drawWalks() throws Exception {
        switch (random.nextInt(14)) {
            case 0, 1 -> call("walk", places(), goals(), near(2), near(5));
            case 2 -> drawWholeWalk();
            case 3 -> call("via", places(), goals(), near(2), near(7));
            case 4 -> call("far", places(), goals(), near(2));
            case 5 -> call("next", places(), goals(), near(2));
            case 6 -> call("breaches", near(5));
            case 7 -> call("breach", near(1 + Math.max(0, y.breaches(0))), near(3));
            case 8 -> call("needs", places(), near(2));
            case 9 -> call(random.nextInt(4) == 0 ? "mend" : "wrong", near(2));
            case 10 -> call(random.nextInt(5) == 0 ? "clear" : "led");
            case 11 -> call("choose", places());
            case 12 -> call("fewest", goals(), near(2));
            default -> call("strangers", random.nextInt(5) == 0 ? random.nextInt(64) - 1 : 1 + random.nextInt(6));
        }
    }

    private void drawWholeWalk() throws Exception {
        int place = places(), goal = goals(), wheels = near(2);
        for (int what = 0; what < 5; what++) {
            call("walk", place, goal, wheels, what);
        }
    }

    private void drawSheets() throws Exception {
        switch (random.nextInt(9)) {
            case 0 -> call("sheet", near(4), random.nextInt(20) == 0 ? -2 : random.nextInt(8) == 0 ? -1 : near(2), random.nextInt(20) == 0 ? random.nextInt(6) - 3 : near(25));
            case 1, 2 -> call("mark", near(4), near(13), random.nextInt(3) == 0 ? random.nextInt() : random.nextInt(8));
            case 3 -> call("fill", signs(), near(4));
            case 4 -> call("copy", near(4), near(7), near(4), near(7), near(5));
            case 5 -> drawLay();
            case 6 -> call("ask", near(5), near(6));
            case 7 -> call("item", near(5), near(9));
            default -> call("rest", near(5), random.nextInt(4) == 0 ? 0 : random.nextInt());
        }
    }

    private void drawLay() throws Exception {
        int thing = near(4);
        call("lay", near(5), thing, thing == 1 ? signs() : thing == 2 ? near(4) : random.nextInt());
    }

    private void drawImages() throws Exception {
        switch (random.nextInt(8)) {
            case 0, 1 -> call("tell", random.nextInt(4));
            case 2 -> call("check", near(31));
            case 3, 4 -> drawCheck();
            case 5 -> call("count", near(13));
            case 6 -> call(random.nextInt(4) == 0 ? "back" : "led");
            default -> call("keep");
        }
    }

    /** Tells what the model would take, at times with one number off, missing or too many. */
    private void drawCheck() throws Exception {
        if (random.nextInt(8) > 0) {
            call("check", 0);
        }
        int n = 1 + random.nextInt(random.nextInt(10) == 0 ? 30 : 4);
        List<Integer> told = y.walksTold(n);
        if (!told.isEmpty()) {
            switch (random.nextInt(4)) {
                case 0 -> told.set(random.nextInt(told.size()), random.nextInt(5));
                case 1 -> told.remove(told.size() - 1);
                case 2 -> told.add(1);
                default -> { }
            }
        }
        for (int v : told) {
            call("tell", v);
        }
        call("check", n);
    }
}
