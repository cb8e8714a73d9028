import java.util.ArrayList;
import java.util.List;

/**
 * What an object answers when all is asked that can be. Some of it can be asked only by changing it, so it is asked in parts,
 * each of an object of its own.
 */
final class Probe {
    static final int PARTS = 7;

    private final Run run;
    private final List<Integer> answers = new ArrayList<>();

    private Probe(Run asked) {
        run = asked;
    }

    static List<Integer> answers(Run run, int part) {
        Probe probe = new Probe(run);
        switch (part) {
            case 0 -> probe.house();
            case 1 -> probe.signs();
            case 2 -> probe.undone();
            case 3 -> probe.texts();
            case 4 -> probe.chosen();
            case 5 -> probe.sheetsAndSlots();
            default -> probe.image();
        }
        return probe.answers;
    }

    /** Beyond the last call that counts nothing is asked any more. */
    private int ask(String name, Object... args) {
        if (run.calls() >= Run.MOST_CALLS) {
            return StrangerSigns.BAD;
        }
        int answer = run.call(name, args);
        answers.add(answer);
        return answer;
    }

    private void counts() {
        for (int what = 0; what < 13; what++) {
            ask("count", what);
        }
    }

    private void house() {
        counts();
        for (int way = 0; way < 20 && ask("wayTold", way, 0) >= 0; way++) {
            for (int what = 1; what < 8; what++) {
                ask("wayTold", way, what);
            }
        }
        for (int goal = 0; goal < 10 && ask("goalTold", goal, 0) >= 0; goal++) {
            ask("goalTold", goal, 1);
        }
        ask("strangers", 60);
        ask("count", 12);
        ask("led");
    }

    private void signs() {
        for (int sign = 0; sign < 14 && ask("told", sign, 0) >= 0; sign++) {
            for (int what = 1; what < 10; what++) {
                ask("told", sign, what);
            }
            for (int row = 0; row < 6 && ask("rowTold", sign, row, 0) >= 0; row++) {
                ask("rowTold", sign, row, 1);
            }
        }
    }

    private void undone() {
        for (int i = 0; i < 17 && ask("undo") >= 0; i++) {
            ask("count", 4);
            ask("breaches", 0);
            ask("wrong", 0);
            for (int sign = 0; sign < 3; sign++) {
                for (int row = 0; row < 2; row++) {
                    ask("rowTold", sign, row, 0);
                    ask("rowTold", sign, row, 1);
                }
            }
        }
    }

    private void texts() {
        for (int key = 0; key < 3; key++) {
            ask("why", key);
        }
        for (int text = 0; text < 14 && ask("textTold", text, 0) >= 0; text++) {
            ask("textTold", text, 1);
        }
        ask("count", 9);
        ask("text");
        ask("count", 5);
        ask("count", 9);
    }

    private void chosen() {
        for (int goal = 0; goal < 10; goal++) {
            ask("fewest", goal, goal % 2);
        }
        for (int place = 0; place < 12; place++) {
            ask("choose", place);
        }
        ask("fewest", 0, 0);
        ask("clear");
    }

    private void sheetsAndSlots() {
        for (int slot = 0; slot < 5; slot++) {
            ask("rest", slot, 1000003);
            for (int kind = 0; kind < 6; kind++) {
                ask("ask", slot, kind);
            }
            for (int place = 0; place < 25 && ask("item", slot, place) > StrangerSigns.BAD; place++) {
                continue;
            }
        }
        for (int sheet = 0; sheet < 4; sheet++) {
            for (int place = 0; place < 25 && ask("mark", sheet, place, 300) > StrangerSigns.BAD; place++) {
                ask("mark", sheet, place, 0);
            }
        }
    }

    private void image() {
        ask("count", 8);
        ask("check", 30);
        ask("back");
        counts();
        house();
        for (int sign = 0; sign < 14 && ask("told", sign, 1) >= 0; sign++) {
            ask("told", sign, 2);
            ask("told", sign, 7);
            ask("rowTold", sign, 0, 0);
            ask("rowTold", sign, 0, 1);
        }
        ask("undo");
    }
}
