import java.util.ArrayDeque;
import java.util.ArrayList;
import java.util.Deque;
import java.util.HashSet;
import java.util.List;
import java.util.Set;

/** The document written a second time, as plainly as can be and by other means, to compare with. */
public final class PlainModel {
    private static final int BAD = StrangerSigns.BAD, NO = StrangerSigns.NO, FULL = StrangerSigns.FULL, NONE = StrangerSigns.NONE;
    private static final int NOTHING = StrangerSigns.NOTHING, KIND = StrangerSigns.KIND, INDEX = StrangerSigns.INDEX, SIZE = StrangerSigns.SIZE;

    private record Goal(int place, int group) {
    }

    private record Row(int name, int arrow) {
    }

    private static final class Way {
        int one, other, direction, sort, minutes;
        boolean shut;

        Way copied() {
            Way w = new Way();
            w.one = one;
            w.other = other;
            w.direction = direction;
            w.sort = sort;
            w.minutes = minutes;
            w.shut = shut;
            return w;
        }

        /** The end to which it leads from a place in a direction; -1. */
        int to(int place, int d) {
            if (place == one && d == direction) {
                return other;
            }
            return place == other && d == (direction + 4) % 8 ? one : -1;
        }
    }

    private static final class Sign {
        int place, kind, until, astray;
        List<Row> rows = new ArrayList<>();

        Sign copied() {
            Sign s = new Sign();
            s.place = place;
            s.kind = kind;
            s.until = until;
            s.astray = astray;
            s.rows = new ArrayList<>(rows);
            return s;
        }

        int most() {
            return new int[] {4, 5, 2, 3, 6, 1}[kind];
        }

        int seen() {
            return new int[] {3, 5, 1, 5, 1, 6}[kind];
        }

        int price() {
            int r = rows.size();
            return new int[] {10 + 2 * r, 15 + 2 * r, 5 + r, 30 + 4 * r, 13 + r, 1}[kind];
        }

        boolean is(int k) {
            return k == kind || k == 0 || kind == 3 && k == 1 || kind == 4 && k == 2;
        }

        int arrowOf(int name) {
            for (Row row : rows) {
                if (row.name() == name) {
                    return row.arrow();
                }
            }
            return -1;
        }
    }

    private record Text(int key, List<String> words) {
        int leaves() {
            return (int) words.stream().filter(w -> Character.isLetterOrDigit(w.charAt(0))).count();
        }
    }

    private static final class State {
        int places = 0, hour = 8, day = 0, z = 1;
        List<Way> ways = new ArrayList<>();
        List<Goal> goals = new ArrayList<>();
        List<Sign> signs = new ArrayList<>();
        List<Text> texts = new ArrayList<>();
        List<Integer> chosen = new ArrayList<>();

        State copied() {
            State s = new State();
            s.places = places;
            s.hour = hour;
            s.day = day;
            s.z = z;
            ways.forEach(w -> s.ways.add(w.copied()));
            s.goals.addAll(goals);
            signs.forEach(g -> s.signs.add(g.copied()));
            s.texts.addAll(texts);
            s.chosen.addAll(chosen);
            return s;
        }
    }

    private record Walk(int end, int minutes, int last, List<Integer> via) {
    }

    private State s = new State();
    private State image = null;
    private final Deque<List<List<Row>>> undone = new ArrayDeque<>();
    private String tape = "";
    private final Object[] sheets = new Object[4];
    private final Object[] slots = new Object[5];
    private final List<Integer> waiting = new ArrayList<>();

    private static boolean in(int v, int n) {
        return 0 <= v && v < n;
    }

    // ---- places, ways, goals

    public int place() {
        return s.places == 12 ? FULL : s.places++;
    }

    public int way(int one, int other, int direction, int sort) {
        if (!in(one, s.places) || !in(other, s.places) || one == other || !in(direction, 8)) {
            return BAD;
        }
        if (sort < 0 || sort / 100 > 3 || sort % 100 < 1 || sort % 100 > 30) {
            return BAD;
        }
        if (s.ways.size() == 20) {
            return FULL;
        }
        for (Way w : s.ways) {
            if (w.to(one, direction) >= 0 || w.to(other, (direction + 4) % 8) >= 0) {
                return NO;
            }
        }
        Way w = new Way();
        w.one = one;
        w.other = other;
        w.direction = direction;
        w.sort = sort / 100;
        w.minutes = sort % 100;
        s.ways.add(w);
        return s.ways.size() - 1;
    }

    public int wayTold(int way, int what) {
        if (!in(way, s.ways.size()) || !in(what, 8)) {
            return BAD;
        }
        Way w = s.ways.get(way);
        return new int[] {w.one, w.other, w.direction, w.sort, w.minutes, w.shut ? 1 : 0, passes(s, w, 0) ? 1 : 0, passes(s, w, 1) ? 1 : 0}[what];
    }

    public int shut(int way, boolean is) {
        if (!in(way, s.ways.size())) {
            return BAD;
        }
        boolean before = s.ways.get(way).shut;
        s.ways.get(way).shut = is;
        return before == is ? 0 : 1;
    }

    public int goal(int place, int group) {
        if (!in(place, s.places) || !in(group + 1, 5)) {
            return BAD;
        }
        if (s.goals.size() == 10) {
            return FULL;
        }
        s.goals.add(new Goal(place, group));
        return s.goals.size() - 1;
    }

    public int goalTold(int goal, int what) {
        if (!in(goal, s.goals.size()) || !in(what, 2)) {
            return BAD;
        }
        Goal g = s.goals.get(goal);
        return what == 0 ? g.place() : g.group() < 0 ? NONE : g.group();
    }

    public int hours(int n) {
        if (n < 1 || n > 48) {
            return BAD;
        }
        int all = s.day * 24 + s.hour + n;
        if (all >= 24000) {
            return FULL;
        }
        s.day = all / 24;
        s.hour = all % 24;
        return s.hour;
    }

    private static boolean passes(State s, Way w, int wheels) {
        if (w.shut || w.sort == 1 && wheels == 1) {
            return false;
        }
        Text t = counting(s, 1);
        return w.sort != 3 || (t == null ? s.hour >= 6 && s.hour <= 21 : value(t, "hdm", s.hour, s.day, w.minutes) != 0);
    }

    // ---- signs

    public int sign(int place, int kind, int days) {
        if (!in(place, s.places) || !in(kind, 6) || kind == 5 && !in(days - 1, 99)) {
            return BAD;
        }
        if (s.signs.size() == 14) {
            return FULL;
        }
        Sign g = new Sign();
        g.place = place;
        g.kind = kind;
        g.until = kind == 5 ? s.day + days : NONE;
        s.signs.add(g);
        undone.clear();
        return s.signs.size() - 1;
    }

    public int told(int sign, int what) {
        if (!in(sign, s.signs.size()) || !in(what, 10)) {
            return BAD;
        }
        Sign g = s.signs.get(sign);
        return new int[] {g.place, g.kind, g.rows.size(), g.most(), g.seen(), g.price(), lit(s, g) ? 1 : 0, g.astray, g.until, obeyed(s, g, 0) ? 1 : 0}[what];
    }

    private static boolean lit(State s, Sign g) {
        Text t = counting(s, 0);
        return switch (g.kind) {
            case 3 -> t == null ? s.hour >= 18 || s.hour < 6 : value(t, "hdr", s.hour, s.day, g.rows.size()) != 0;
            case 5 -> s.day < g.until;
            default -> true;
        };
    }

    private static boolean obeyed(State s, Sign g, int wheels) {
        Text t = counting(s, 2);
        return t == null || value(t, "kswh", g.kind, g.seen(), wheels, s.hour) != 0;
    }

    public int as(int sign, int kind) {
        if (!in(sign, s.signs.size()) || !in(kind, 6)) {
            return BAD;
        }
        return s.signs.get(sign).is(kind) ? s.signs.get(sign).rows.size() : KIND;
    }

    public int turns(int sign, int kind) {
        if (!in(sign, s.signs.size()) || !in(kind, 5)) {
            return BAD;
        }
        int before = s.signs.get(sign).kind;
        if (before == 5) {
            return NO;
        }
        s.signs.get(sign).kind = kind;
        return before;
    }

    private void changes() {
        List<List<Row>> all = new ArrayList<>();
        s.signs.forEach(g -> all.add(new ArrayList<>(g.rows)));
        undone.addLast(all);
        if (undone.size() > 16) {
            undone.removeFirst();
        }
    }

    public int row(int sign, int name, int arrow) {
        if (!in(sign, s.signs.size()) || !in(name, 14) || !in(arrow, 8)) {
            return BAD;
        }
        Sign g = s.signs.get(sign);
        if (g.rows.size() >= g.most()) {
            return FULL;
        }
        changes();
        g.rows.add(new Row(name, arrow));
        return g.rows.size();
    }

    public int rowTold(int sign, int row, int what) {
        if (!in(sign, s.signs.size()) || !in(what, 2)) {
            return BAD;
        }
        Sign g = s.signs.get(sign);
        return !in(row, g.rows.size()) ? NONE : what == 0 ? g.rows.get(row).name() : g.rows.get(row).arrow();
    }

    public int drop(int sign, int row) {
        if (!in(sign, s.signs.size()) || !in(row, s.signs.get(sign).rows.size())) {
            return BAD;
        }
        changes();
        s.signs.get(sign).rows.remove(row);
        return s.signs.get(sign).rows.size();
    }

    public int aim(int sign, int row, int arrow) {
        if (!in(sign, s.signs.size()) || !in(row, s.signs.get(sign).rows.size()) || !in(arrow, 8)) {
            return BAD;
        }
        changes();
        Row before = s.signs.get(sign).rows.get(row);
        s.signs.get(sign).rows.set(row, new Row(before.name(), arrow));
        return before.arrow();
    }

    public int undo() {
        if (undone.isEmpty()) {
            return NO;
        }
        List<List<Row>> all = undone.removeLast();
        for (int i = 0; i < all.size(); i++) {
            s.signs.get(i).rows = all.get(i);
        }
        return undone.size();
    }

    // ---- texts

    public int feed(int a, int b, int c) {
        if (tape.length() + 12 > 96) {
            return FULL;
        }
        StringBuilder fed = new StringBuilder(tape);
        for (int v : new int[] {a, b, c}) {
            for (int i = 3; i >= 0; i--) {
                fed.append((char) (v >>> 8 * i & 255));
            }
        }
        tape = fed.toString();
        return tape.length();
    }

    public int trim(int n) {
        if (n < 0 || n > tape.length()) {
            return BAD;
        }
        tape = tape.substring(0, n);
        return n;
    }

    public int text() {
        String read = tape;
        tape = "";
        List<String> words = new ArrayList<>();
        List<Integer> starts = new ArrayList<>();
        for (int i = 0; i < read.length(); ) {
            int end = i + 1;
            char c = read.charAt(i);
            while (sort(c) != 0 && end < read.length() && sort(read.charAt(end)) == sort(c)) {
                end++;
            }
            if (c != ' ') {
                words.add(read.substring(i, end));
                starts.add(i);
            }
            i = end;
        }
        starts.add(read.length());
        int at = faultAt(words, starts);
        if (at >= 0) {
            return -100 - starts.get(at);
        }
        if (s.texts.size() == 14) {
            return FULL;
        }
        s.texts.add(new Text(List.of("light", "gate", "obey").indexOf(words.get(0)), words.subList(1, words.size())));
        return s.texts.size() - 1;
    }

    private static int sort(char c) {
        return c >= 'a' && c <= 'z' ? 1 : c >= '0' && c <= '9' ? 2 : 0;
    }

    /** Which word or sign no text goes on with: by a stack of what is open, and whether its test is made. */
    private static int faultAt(List<String> words, List<Integer> starts) {
        if (words.isEmpty() || !List.of("light", "gate", "obey").contains(words.get(0))) {
            return 0;
        }
        String names = words.get(0).equals("light") ? "hdr" : words.get(0).equals("gate") ? "hdm" : "kswh";
        StringBuilder open = new StringBuilder("_");
        boolean operand = true;
        for (int i = 1; i < words.size(); i++) {
            String w = words.get(i);
            char c = w.charAt(0);
            int top = open.length() - 1;
            boolean glued = sort(c) != 0 && sort(words.get(i - 1).charAt(0)) != 0 && starts.get(i) == starts.get(i - 1) + words.get(i - 1).length();
            if (operand) {
                boolean leaf = sort(c) == 2 && w.length() <= 4 || sort(c) == 1 && w.length() == 1 && names.contains(w);
                if (leaf && !glued) {
                    operand = false;
                    closeNots(open);
                } else if (c == '!' && open.chars().filter(o -> o == '!').count() < 8) {
                    open.append('!');
                } else if (c == '(' && open.chars().filter(o -> o == '(' || o == '[').count() < 8) {
                    open.append('(');
                } else {
                    return i;
                }
            } else if (c == ')' && top > 0) {
                open.setLength(top);
                closeNots(open);
            } else if (c == '|' || c == '&') {
                open.setCharAt(top, top == 0 ? '_' : '(');
                operand = true;
            } else if ((c == '<' || c == '=' || c == '>') && open.charAt(top) != '[' && open.charAt(top) != '-') {
                open.setCharAt(top, top == 0 ? '-' : '[');
                operand = true;
            } else if (c == '+' || c == '-' || c == '*' || c == '/') {
                operand = true;
            } else {
                return i;
            }
        }
        return operand || open.length() > 1 ? words.size() : -1;
    }

    private static void closeNots(StringBuilder open) {
        while (open.charAt(open.length() - 1) == '!') {
            open.setLength(open.length() - 1);
        }
    }

    /** By the loosest sign that stands in no brackets, the last of those that are as loose. */
    private static int value(Text t, String names, int... given) {
        return value(t.words(), names, given);
    }

    private static int value(List<String> e, String names, int[] given) {
        for (String level : new String[] {"|", "&", "<=>", "+-", "*/"}) {
            int depth = 0;
            for (int i = e.size() - 1; i > 0; i--) {
                String w = e.get(i);
                depth += w.equals(")") ? 1 : w.equals("(") ? -1 : 0;
                if (depth == 0 && level.contains(w)) {
                    int a = value(e.subList(0, i), names, given);
                    int b = value(e.subList(i + 1, e.size()), names, given);
                    return joined(a, w.charAt(0), b);
                }
            }
        }
        String w = e.get(0);
        if (w.equals("!")) {
            return value(e.subList(1, e.size()), names, given) == 0 ? 1 : 0;
        }
        if (w.equals("(")) {
            return value(e.subList(1, e.size() - 1), names, given);
        }
        return sort(w.charAt(0)) == 2 ? Integer.parseInt(w) : given[names.indexOf(w)];
    }

    private static int joined(int a, char sign, int b) {
        return switch (sign) {
            case '|' -> a != 0 || b != 0 ? 1 : 0;
            case '&' -> a != 0 && b != 0 ? 1 : 0;
            case '<' -> a < b ? 1 : 0;
            case '=' -> a == b ? 1 : 0;
            case '>' -> a > b ? 1 : 0;
            case '+' -> a + b;
            case '-' -> a - b;
            case '*' -> a * b;
            default -> b == 0 ? 0 : a / b;
        };
    }

    private static Text counting(State s, int key) {
        Text found = null;
        for (Text t : s.texts) {
            found = t.key() == key ? t : found;
        }
        return found;
    }

    public int textTold(int text, int what) {
        if (!in(text, s.texts.size()) || !in(what, 2)) {
            return BAD;
        }
        return what == 0 ? s.texts.get(text).key() : s.texts.get(text).leaves();
    }

    public int why(int key) {
        if (!in(key, 3)) {
            return BAD;
        }
        int found = NONE;
        for (int i = 0; i < s.texts.size(); i++) {
            found = s.texts.get(i).key() == key ? i : found;
        }
        return found;
    }

    // ---- walks, laws

    private static Way wayThatPasses(State s, int place, int d, int wheels) {
        for (Way w : s.ways) {
            if (w.to(place, d) >= 0 && passes(s, w, wheels)) {
                return w;
            }
        }
        return null;
    }

    private static Walk walked(State s, int place, int goal, int wheels, int[] ahead) {
        List<Integer> via = new ArrayList<>();
        Set<String> came = new HashSet<>();
        int here = place, minutes = 0, last = NONE, cameIn = -1;
        Way cameBy = null;
        Goal g = s.goals.get(goal);
        via.add(here);
        while (here != g.place()) {
            int d = ahead == null ? -1 : ahead[here];
            if (d < 0) {
                int follow = follows(s, here, goal, wheels);
                if (follow >= 0) {
                    last = follow;
                    d = s.signs.get(follow).arrowOf(goal);
                    d = d < 0 ? s.signs.get(follow).arrowOf(10 + g.group()) : d;
                } else if (cameIn >= 0 && wayThatPasses(s, here, cameIn, wheels) != null) {
                    d = cameIn;
                } else {
                    List<Integer> others = new ArrayList<>();
                    for (int e = 0; e < 8; e++) {
                        Way w = wayThatPasses(s, here, e, wheels);
                        if (w != null && w != cameBy) {
                            others.add(e);
                        }
                    }
                    d = others.size() == 1 ? others.get(0) : -1;
                }
            }
            Way w = d < 0 ? null : wayThatPasses(s, here, d, wheels);
            if (w == null) {
                return new Walk(2, minutes, last, via);
            }
            here = w.to(here, d);
            minutes += w.minutes;
            cameIn = d;
            cameBy = w;
            via.add(here);
            if (!came.add(here + " " + d)) {
                return new Walk(3, minutes, last, via);
            }
        }
        return new Walk(1, minutes, last, via);
    }

    private static int follows(State s, int here, int goal, int wheels) {
        int best = -1;
        for (int i = 0; i < s.signs.size(); i++) {
            Sign g = s.signs.get(i);
            if (g.place != here || !lit(s, g) || !obeyed(s, g, wheels)) {
                continue;
            }
            int rank = rank(s, g, goal);
            if (rank > 0 && (best < 0 || rank > rank(s, s.signs.get(best), goal))) {
                best = i;
            }
        }
        return best;
    }

    private static int rank(State s, Sign g, int goal) {
        int group = s.goals.get(goal).group();
        return g.arrowOf(goal) >= 0 ? 100 + g.seen() : group >= 0 && g.arrowOf(10 + group) >= 0 ? g.seen() : 0;
    }

    private boolean badTrip(int place, int goal, int wheels) {
        return !in(place, s.places) || !in(goal, s.goals.size()) || !in(wheels, 2);
    }

    public int walk(int place, int goal, int wheels, int what) {
        if (badTrip(place, goal, wheels) || !in(what, 5)) {
            return BAD;
        }
        Walk w = walked(s, place, goal, wheels, null);
        return new int[] {w.end(), w.minutes(), w.via().get(w.via().size() - 1), w.via().size() - 1, w.last()}[what];
    }

    public int via(int place, int goal, int wheels, int i) {
        if (badTrip(place, goal, wheels) || i < 0) {
            return BAD;
        }
        List<Integer> via = walked(s, place, goal, wheels, null).via();
        return i < via.size() ? via.get(i) : NONE;
    }

    private int[][] distances(int wheels) {
        int[][] far = new int[s.places][s.places];
        for (int i = 0; i < s.places; i++) {
            for (int j = 0; j < s.places; j++) {
                far[i][j] = i == j ? 0 : 99999;
            }
        }
        for (Way w : s.ways) {
            if (passes(s, w, wheels)) {
                far[w.one][w.other] = Math.min(far[w.one][w.other], w.minutes);
                far[w.other][w.one] = far[w.one][w.other];
            }
        }
        for (int k = 0; k < s.places; k++) {
            for (int i = 0; i < s.places; i++) {
                for (int j = 0; j < s.places; j++) {
                    far[i][j] = Math.min(far[i][j], far[i][k] + far[k][j]);
                }
            }
        }
        return far;
    }

    private int nextOf(int place, int goal, int wheels) {
        int[][] far = distances(wheels);
        int to = s.goals.get(goal).place();
        if (far[place][to] == 0 || far[place][to] >= 99999) {
            return NONE;
        }
        for (int d = 0; d < 8; d++) {
            Way w = wayThatPasses(s, place, d, wheels);
            if (w != null && w.minutes + far[w.to(place, d)][to] == far[place][to]) {
                return d;
            }
        }
        throw new IllegalStateException();
    }

    public int far(int place, int goal, int wheels) {
        if (badTrip(place, goal, wheels)) {
            return BAD;
        }
        int far = distances(wheels)[place][s.goals.get(goal).place()];
        return far >= 99999 ? NONE : far;
    }

    public int next(int place, int goal, int wheels) {
        return badTrip(place, goal, wheels) ? BAD : nextOf(place, goal, wheels);
    }

    private List<int[]> allBreaches() {
        List<int[]> all = new ArrayList<>();
        for (int i = 0; i < s.signs.size(); i++) {
            Sign g = s.signs.get(i);
            for (int r = 0; r < g.rows.size(); r++) {
                Row row = g.rows.get(r);
                if (r >= g.most()) {
                    all.add(new int[] {i, r, 1});
                }
                if (quarrels(i, r)) {
                    all.add(new int[] {i, r, 2});
                }
                int to = -1;
                for (Way w : s.ways) {
                    to = Math.max(to, w.to(g.place, row.arrow()));
                }
                if (to < 0) {
                    all.add(new int[] {i, r, 3});
                } else if (drops(row.name(), to)) {
                    all.add(new int[] {i, r, 4});
                }
            }
        }
        return all;
    }

    private boolean quarrels(int sign, int at) {
        Row row = s.signs.get(sign).rows.get(at);
        for (int i = 0; i <= sign; i++) {
            Sign g = s.signs.get(i);
            for (int r = 0; r < (i == sign ? at : g.rows.size()); r++) {
                Row o = g.rows.get(r);
                if (g.place == s.signs.get(sign).place && o.name() == row.name() && o.arrow() != row.arrow()) {
                    return true;
                }
            }
        }
        return false;
    }

    private boolean drops(int name, int at) {
        if (s.ways.stream().filter(w -> w.one == at || w.other == at).count() < 3) {
            return false;
        }
        Set<Integer> goals = new HashSet<>();
        Set<Integer> names = new HashSet<>(List.of(name));
        for (int i = 0; i < s.goals.size(); i++) {
            Goal g = s.goals.get(i);
            if (i == name || name >= 10 && g.group() == name - 10) {
                goals.add(i);
            }
            if (i == name && g.group() >= 0) {
                names.add(10 + g.group());
            }
            if (name >= 10 && g.group() == name - 10) {
                names.add(i);
            }
        }
        boolean there = goals.stream().anyMatch(i -> s.goals.get(i).place() == at);
        boolean told = s.signs.stream().anyMatch(g -> g.place == at && g.rows.stream().anyMatch(r -> names.contains(r.name())));
        return !there && !told;
    }

    public int breaches(int which) {
        return !in(which, 5) ? BAD : (int) allBreaches().stream().filter(b -> which == 0 || b[2] == which).count();
    }

    public int breach(int i, int what) {
        if (!in(what, 3) || i < 0) {
            return BAD;
        }
        List<int[]> all = allBreaches();
        return i < all.size() ? all.get(i)[what] : NONE;
    }

    public int needs(int place, int wheels) {
        if (!in(place, s.places) || !in(wheels, 2)) {
            return BAD;
        }
        int needs = 0;
        for (int group = -1; group < 4; group++) {
            List<Integer> nexts = new ArrayList<>();
            for (int i = 0; i < s.goals.size(); i++) {
                if (s.goals.get(i).group() == group && nextOf(place, i, wheels) != NONE) {
                    nexts.add(nextOf(place, i, wheels));
                }
            }
            needs += group >= 0 && new HashSet<>(nexts).size() == 1 ? 1 : nexts.size();
        }
        return needs;
    }

    private int due(int place, int name, int wheels) {
        if (name < 10) {
            return name < s.goals.size() ? nextOf(place, name, wheels) : NONE;
        }
        int best = -1;
        for (int i = 0; i < s.goals.size(); i++) {
            if (s.goals.get(i).group() == name - 10 && nextOf(place, i, wheels) != NONE
                && (best < 0 || far(place, i, wheels) < far(place, best, wheels))) {
                best = i;
            }
        }
        return best < 0 ? NONE : nextOf(place, best, wheels);
    }

    public int wrong(int wheels) {
        if (!in(wheels, 2)) {
            return BAD;
        }
        int wrong = 0;
        for (Sign g : s.signs) {
            for (Row r : g.rows) {
                int due = due(g.place, r.name(), wheels);
                wrong += due != NONE && due != r.arrow() ? 1 : 0;
            }
        }
        return wrong;
    }

    public int mend(int wheels) {
        int wrong = wrong(wheels);
        if (wrong == BAD) {
            return BAD;
        }
        changes();
        for (Sign g : s.signs) {
            g.rows.replaceAll(r -> due(g.place, r.name(), wheels) == NONE ? r : new Row(r.name(), due(g.place, r.name(), wheels)));
        }
        return wrong;
    }

    public int choose(int place) {
        if (!in(place, s.places)) {
            return BAD;
        }
        if (s.chosen.contains(place)) {
            return NO;
        }
        if (s.chosen.size() == 6) {
            return FULL;
        }
        s.chosen.add(place);
        return s.chosen.size();
    }

    public int clear() {
        int before = s.chosen.size();
        s.chosen.clear();
        return before;
    }

    public int fewest(int goal, int wheels) {
        if (!in(goal, s.goals.size()) || !in(wheels, 2)) {
            return BAD;
        }
        int best = NONE;
        int[] nexts = new int[s.places];
        for (int p = 0; p < s.places; p++) {
            nexts[p] = nextOf(p, goal, wheels);
        }
        for (int set = 0; set < 1 << s.chosen.size(); set++) {
            if (best != NONE && Integer.bitCount(set) >= Integer.bitCount(best)) {
                continue;
            }
            int[] ahead = new int[s.places];
            for (int p = 0; p < s.places; p++) {
                int i = s.chosen.indexOf(p);
                ahead[p] = i >= 0 && (set & 1 << i) != 0 ? nexts[p] : -1;
            }
            boolean all = true;
            for (int p = 0; p < s.places && all; p++) {
                all = nexts[p] == NONE || walked(s, p, goal, wheels, ahead).end() == 1;
            }
            best = all ? set : best;
        }
        return best;
    }

    // ---- crowds

    public int seed(int v) {
        int before = s.z;
        s.z = v;
        return before;
    }

    private static int draw(State s) {
        s.z = s.z * 1103515245 + 12345;
        return s.z >>> 8;
    }

    private static Walk stranger(State s) {
        int place = draw(s) % s.places;
        int goal = draw(s) % s.goals.size();
        int wheels = draw(s) % 4 == 0 ? 1 : 0;
        return walked(s, place, goal, wheels, null);
    }

    public int strangers(int n) {
        if (n < 1 || n > 60) {
            return BAD;
        }
        if (s.places == 0 || s.goals.isEmpty()) {
            return NO;
        }
        int arrived = 0;
        for (int i = 0; i < n; i++) {
            Walk w = stranger(s);
            if (w.end() == 1) {
                arrived++;
            } else if (w.last() != NONE) {
                s.signs.get(w.last()).astray = Math.min(9999, s.signs.get(w.last()).astray + 1);
            }
        }
        return arrived;
    }

    public int led() {
        int best = NONE;
        for (int i = s.signs.size() - 1; i >= 0; i--) {
            int astray = s.signs.get(i).astray;
            if (astray > 0 && (best == NONE || astray >= s.signs.get(best).astray)) {
                best = i;
            }
        }
        return best;
    }

    // ---- sheets, slots

    public int sheet(int sheet, int sort, int n) {
        if (!in(sheet, 4) || !in(sort + 1, 3) || sort >= 0 && n > 24) {
            return BAD;
        }
        if (sort >= 0 && n < 0) {
            return SIZE;
        }
        sheets[sheet] = sort < 0 ? null : sort == 0 ? new byte[n] : new short[n];
        return sort < 0 ? 0 : n;
    }

    private static int size(Object sheet) {
        return sheet instanceof byte[] b ? b.length : ((short[]) sheet).length;
    }

    private static int cell(Object sheet, int place) {
        return sheet instanceof byte[] b ? b[place] : ((short[]) sheet)[place];
    }

    public int mark(int sheet, int place, int v) {
        if (!in(sheet, 4)) {
            return BAD;
        }
        if (sheets[sheet] == null) {
            return NOTHING;
        }
        if (!in(place, size(sheets[sheet]))) {
            return INDEX;
        }
        int before = cell(sheets[sheet], place);
        if (sheets[sheet] instanceof byte[] b) {
            b[place] = (byte) v;
        } else {
            ((short[]) sheets[sheet])[place] = (short) v;
        }
        return before;
    }

    public int fill(int sign, int sheet) {
        if (!in(sign, s.signs.size()) || !in(sheet, 4)) {
            return BAD;
        }
        if (sheets[sheet] == null) {
            return NOTHING;
        }
        changes();
        Sign g = s.signs.get(sign);
        g.rows = new ArrayList<>();
        for (int i = 0; i + 1 < size(sheets[sheet]) && g.rows.size() < g.most(); i += 2) {
            Row row = new Row(cell(sheets[sheet], i), cell(sheets[sheet], i + 1));
            if (!in(row.name(), 14) || !in(row.arrow(), 8)) {
                break;
            }
            g.rows.add(row);
        }
        return g.rows.size();
    }

    public int copy(int from, int place, int to, int at, int many) {
        if (!in(from, 4) || !in(to, 4)) {
            return BAD;
        }
        Object a = sheets[from], b = sheets[to];
        if (a == null || b == null) {
            return NOTHING;
        }
        if (a.getClass() != b.getClass()) {
            return KIND;
        }
        if (place < 0 || at < 0 || many < 0 || (long) place + many > size(a) || (long) at + many > size(b)) {
            return INDEX;
        }
        System.arraycopy(a, place, b, at, many);
        return many;
    }

    public int lay(int slot, int thing, int k) {
        if (!in(slot, 5) || !in(thing, 4) || thing == 1 && !in(k, s.signs.size()) || thing == 2 && !in(k, 4)) {
            return BAD;
        }
        if (thing == 2 && sheets[k] == null) {
            return NOTHING;
        }
        Object before = slots[slot];
        slots[slot] = switch (thing) {
            case 0 -> null;
            case 1 -> s.signs.get(k).copied();
            case 2 -> sheets[k] instanceof byte[] b ? b.clone() : ((short[]) sheets[k]).clone();
            default -> Integer.valueOf(k);
        };
        return before == null ? 0 : before instanceof Sign ? 1 : before instanceof Integer ? 3 : 2;
    }

    public int ask(int slot, int kind) {
        if (!in(slot, 5) || !in(kind, 6)) {
            return BAD;
        }
        if (slots[slot] == null) {
            return NOTHING;
        }
        return slots[slot] instanceof Sign g && g.is(kind) ? g.price() : KIND;
    }

    public int item(int slot, int place) {
        if (!in(slot, 5)) {
            return BAD;
        }
        Object o = slots[slot];
        if (o == null) {
            return NOTHING;
        }
        if (o instanceof Sign || o instanceof Integer) {
            return KIND;
        }
        return in(place, size(o)) ? cell(o, place) : INDEX;
    }

    public int rest(int slot, int n) {
        if (!in(slot, 5)) {
            return BAD;
        }
        if (slots[slot] == null) {
            return NOTHING;
        }
        return slots[slot] instanceof Integer v ? n == 0 ? NO : (int) ((long) v % n) : KIND;
    }

    // ---- rows, images

    public int tell(int v) {
        if (waiting.size() == 60) {
            return FULL;
        }
        waiting.add(v);
        return waiting.size();
    }

    public int check(int n) {
        List<Integer> told = new ArrayList<>(waiting);
        waiting.clear();
        if (n < 1 || n > 30) {
            return BAD;
        }
        if (image == null || image.places == 0 || image.goals.isEmpty()) {
            return NO;
        }
        List<Integer> due = walksTold(n);
        if (told.equals(due)) {
            return 0;
        }
        int right = 0;
        while (right < told.size() && right < due.size() && told.get(right).equals(due.get(right))) {
            right++;
        }
        return 1 + right;
    }

    /** The numbers that check would take; none without an image that can be drawn from. */
    List<Integer> walksTold(int n) {
        List<Integer> due = new ArrayList<>();
        if (image == null || image.places == 0 || image.goals.isEmpty()) {
            return due;
        }
        State from = image.copied();
        for (int i = 0; i < n; i++) {
            Walk w = stranger(from);
            due.add(w.end());
            due.add(w.minutes());
        }
        return due;
    }

    public int keep() {
        image = s.copied();
        return s.signs.size();
    }

    public int back() {
        if (image == null) {
            return NO;
        }
        s = image.copied();
        undone.clear();
        return s.signs.size();
    }

    public int count(int what) {
        int rows = s.signs.stream().mapToInt(g -> g.rows.size()).sum();
        int[] counts = {s.places, s.ways.size(), s.goals.size(), s.signs.size(), rows, s.texts.size(), s.chosen.size(), undone.size(),
            waiting.size(), tape.length(), s.hour, s.day, s.z};
        return in(what, counts.length) ? counts[what] : BAD;
    }
}
