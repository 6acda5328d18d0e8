import java.util.ArrayList;
import java.util.List;

/** All that can be asked of an object in 512 calls: two that answer alike are alike. For small ways. */
final class Everything {
    private final Script stair;
    private final List<Integer> answers = new ArrayList<>();

    private Everything(Script stair) {
        this.stair = stair;
    }

    static List<Integer> of(Script stair) {
        Everything all = new Everything(stair);
        all.pad();
        all.state();
        all.signs();
        for (int n = 0; n < 2; n++) if (all.ask("restore", n) == 1) all.state();
        stair.run("told(0)");
        return all.answers;
    }

    private int ask(String name, int... n) {
        int answer = stair.call(name, n);
        answers.add(answer);
        return answer;
    }

    private void pad() {
        ask("told", 0);
        ask("fault", 0);
        ask("fault", 1);
    }

    private void state() {
        int x = ask("told", 1), y = ask("told", 2), z = ask("told", 3);
        for (int i = 0; i < x * y * z; i++) ask("cell", 100 * (i / z / y) + 10 * (i / z % y) + i % z);
        for (int thing = 0; thing < 4; thing++) {
            for (int what = 10; what < 40; what += 10) ask("told", what + thing);
            cubes(thing);
        }
        for (int of = -2; of < 4; of++) {
            for (int which = 0; which < 4; which++) {
                int cost = ask("cost", of, which, 0);
                ask("cost", of, which, cost);
            }
        }
        for (int thing = 0; thing < 4; thing++) if (ask("room", thing, 0) >= 0) searches(thing);
        ask("bar", 1);
        ask("order", 3, 0);
        ask("order", 3, 1);
    }

    private void cubes(int thing) {
        for (int cube = 0; cube < 3; cube++) {
            if (ask("cube", thing, cube, 0) < 0) break;
            for (int what = 1; what < 4; what++) ask("cube", thing, cube, what);
        }
    }

    private void searches(int thing) {
        ask("room", thing, 1);
        ask("room", thing, 2);
        ask("goes", thing, 1, 1, -1);
        ask("goes", thing, 1, 1, 0);
        ask("effort", thing, 0, 1, -1);
        for (int what = 0; what < 3; what++) ask("least", thing, what);
        ask("came", thing, 0);
    }

    /** The signs on the PAD can be seen by what becomes of them. */
    private void signs() {
        for (int thing = 0; thing < 4; thing++) {
            ask("judge", thing, 0);
            ask("judge", thing, 1);
        }
        if (ask("thing", 3) > 0) cubes(3);
        for (int thing = 0; thing < 4; thing++) {
            if (ask("move", thing) >= 0) cubes(thing);
        }
    }
}
