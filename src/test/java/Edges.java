import java.io.IOException;
import java.nio.file.Files;
import java.nio.file.Path;
import java.util.ArrayList;
import java.util.HashMap;
import java.util.HashSet;
import java.util.List;
import java.util.Map;
import java.util.Set;
import java.util.regex.Matcher;
import java.util.regex.Pattern;

/**
 * Tests of the document's sentences that name a boundary: each sentence is quoted where it stands, and what follows is asked on both
 * sides of its boundary. A refused call is made on a second object too, which must then answer all as one without that call.
 */
final class Edges {
    static final int BAD = StrangerSigns.BAD, NO = StrangerSigns.NO, FULL = StrangerSigns.FULL, NONE = StrangerSigns.NONE;
    static final int NOTHING = StrangerSigns.NOTHING, KIND = StrangerSigns.KIND, INDEX = StrangerSigns.INDEX, SIZE = StrangerSigns.SIZE;
    private static final Map<String, Integer> REFUSALS = Map.of("BAD", BAD, "NO", NO, "FULL", FULL, "NONE", NONE, "NOTHING", NOTHING,
        "KIND:", KIND, "INDEX", INDEX, "SIZE", SIZE);
    static final int PROMISES = 50, TERMS = 5;

    private final Due due = new Due();
    private final String document;
    private final Set<String> quoted = new HashSet<>();
    /** By promise: which of its answers of refusal were due in its tests. */
    private final Map<Integer, Set<Integer>> seen = new HashMap<>();
    private int promise = 0;
    private String sentence = "";
    private List<Run.Step> steps = new ArrayList<>();
    private Run run = new Run();

    Edges() throws IOException {
        document = Files.readString(Path.of("../shared/DOC.md")).replaceAll("\\s+", " ");
    }

    // ---- what is quoted

    void promise(int number, String words) {
        promise = number;
        quote("promise " + number, promiseText(number), words);
    }

    /** Terms 0 are those ahead of the numbered ones. */
    void terms(int number, String words) {
        promise = 0;
        quote("terms " + number, termsText(number), words);
    }

    private void quote(String where, String text, String words) {
        sentence = where + ", '" + words + "'";
        due.holds(sentence + " stands there", text.contains(words));
        quoted.add(where);
        fresh();
    }

    private String promiseText(int number) {
        return between("## Promise " + number + ":", number == PROMISES ? "## Not promised" : "## Promise " + (number + 1) + ":");
    }

    private String termsText(int number) {
        return between(number == 0 ? "## Terms" : "======== " + number, number == TERMS ? "Ahead of the calls" : "======== " + (number + 1));
    }

    private String between(String first, String behind) {
        int from = document.indexOf(first);
        int to = document.indexOf(behind, from);
        due.holds(first + " .. " + behind, from >= 0 && to >= 0);
        return from >= 0 && to >= 0 ? document.substring(from, to) : "";
    }

    // ---- calls

    /** From here on a new object is asked. */
    void fresh() {
        due.holds(sentence + ": within 512 calls", run.calls() <= Run.MOST_CALLS);
        steps = new ArrayList<>();
        run = new Run();
    }

    int call(String name, Object... args) {
        Run.Step step = new Run.Step(name, args);
        steps.add(step);
        return run.make(step);
    }

    void is(int want, String name, Object... args) {
        Run.Step step = new Run.Step(name, args);
        steps.add(step);
        check(step, run.make(step), want);
    }

    /** A call that is refused or has nothing to tell, and changes nothing. */
    void refused(int want, String name, Object... args) {
        reads(want, name, args);
    }

    /** A call that changes nothing. */
    void reads(int want, String name, Object... args) {
        Run.Step step = new Run.Step(name, args);
        check(step, run.make(step), want);
        for (int part = 0; part < Probe.PARTS; part++) {
            Run without = Run.of(steps);
            Run with = Run.of(steps);
            with.make(step);
            // Both are asked as often, so that they end at the same call.
            without.call("count", 0);
            boolean same = Probe.answers(without, part).equals(Probe.answers(with, part));
            due.holds(sentence + ": " + step + " changes nothing, part " + part, same);
        }
    }

    void holds(String what, boolean is) {
        due.holds(sentence + ": " + what, is);
    }

    private void check(Run.Step step, int got, int want) {
        due.is(sentence + ": " + step, got, want);
        seen.computeIfAbsent(promise, k -> new HashSet<>()).add(want);
    }

    // ---- what many tests build

    void places(int n) {
        for (int i = 0; i < n; i++) {
            call("place");
        }
    }

    /** Places 0 - 1 - 2 - .. in a row, each way in direction 0 and of one minute. */
    void corridor(int n) {
        places(n);
        for (int i = 0; i + 1 < n; i++) {
            call("way", i, i + 1, 0, 1);
        }
    }

    /** Place 0 in the middle; places 1 .. 4 from it in directions 0, 2, 4, 6; minutes 1 .. 4. */
    void star() {
        places(5);
        for (int i = 1; i <= 4; i++) {
            call("way", 0, i, 2 * (i - 1), i);
        }
    }

    /** Something of everything, so that what a refused call might change is there. */
    void furnished() {
        star();
        call("way", 1, 2, 1, 305);
        call("way", 3, 4, 1, 106);
        call("goal", 1, 0);
        call("goal", 2, 0);
        call("goal", 3, -1);
        for (int kind = 0; kind < 6; kind++) {
            call("sign", kind % 3, kind, 9);
        }
        tape("gate h>3");
        call("text");
        call("keep");
        call("row", 0, 10, 0);
        call("row", 0, 2, 4);
        call("row", 1, 0, 4);
        call("row", 3, 2, 1);
        call("choose", 4);
        call("choose", 0);
        call("sheet", 1, 0, 4);
        call("mark", 1, 0, 3);
        call("sheet", 2, 1, 3);
        call("mark", 2, 2, -300);
        call("lay", 0, 1, 3);
        call("lay", 1, 2, 1);
        call("lay", 2, 3, 77);
        call("seed", 77);
        call("strangers", 9);
        call("tell", 2);
        tape("light h");
    }

    /** Puts the bytes of a text on an empty tape. */
    void tape(String text) {
        for (int i = 0; i < text.length(); i += 12) {
            call("feed", four(text, i), four(text, i + 4), four(text, i + 8));
        }
        call("trim", text.length());
    }

    private static int four(String text, int from) {
        int all = 0;
        for (int i = from; i < from + 4; i++) {
            all = all << 8 | (i < text.length() ? text.charAt(i) & 255 : ' ');
        }
        return all;
    }

    /** The tape is told anew and read. */
    void text(int want, String text) {
        call("trim", 0);
        tape(text);
        due.is(sentence + ": '" + text + "'", call("text"), want);
        seen.computeIfAbsent(promise, k -> new HashSet<>()).add(want);
    }

    void fault(int at, String text) {
        text(-100 - at, text);
    }

    // ---- the end

    /** Each promise and each part of the terms has tests, and each promise tests of each of its answers of refusal. */
    void end() {
        fresh();
        for (int i = 0; i <= TERMS; i++) {
            due.holds("terms " + i + " are tested", quoted.contains("terms " + i));
        }
        for (int i = 1; i <= PROMISES; i++) {
            due.holds("promise " + i + " is tested", quoted.contains("promise " + i));
            Matcher named = Pattern.compile("\\b(BAD\\b|NO\\b|FULL\\b|NONE\\b|NOTHING\\b|KIND:|INDEX\\b|SIZE\\b)").matcher(promiseText(i));
            while (named.find()) {
                Set<Integer> wants = seen.getOrDefault(i, Set.of());
                due.holds("promise " + i + ": " + named.group(1) + " is tested", wants.contains(REFUSALS.get(named.group(1))));
            }
        }
        due.end();
    }
}
