import java.util.ArrayList;
import java.util.List;
import java.util.Random;

/** Random runs of calls, each answer compared with that of the Model. */
public final class ModelTest {
    private final Random random;
    private final Due due;
    private final List<String> calls = new ArrayList<>();
    private SofaStair stair = new SofaStair();
    private Model model = new Model();
    private int used;

    private ModelTest(long seed, Due due) {
        random = new Random(seed);
        this.due = due;
    }

    public static void main(String[] args) {
        int runs = args.length > 0 ? Integer.parseInt(args[0]) : 400;
        long first = args.length > 1 ? Long.parseLong(args[1]) : 1;
        Due due = new Due();
        for (int run = 0; run < runs && due.wrong() == 0; run++) {
            ModelTest test = new ModelTest(first + run, due);
            due.about("run of seed " + (first + run));
            test.run();
            if (due.wrong() != 0) System.out.println(String.join("\n", test.calls));
        }
        due.end();
    }

    private void run() {
        boolean roomy = random.nextInt(20) == 0;
        int most = random.nextInt(3) == 0 ? 4 : 3;
        if (roomy) call("size", 4 + random.nextInt(3), 4 + random.nextInt(3), 1 + random.nextInt(4));
        else call("size", 1 + random.nextInt(most), 1 + random.nextInt(most), 1 + random.nextInt(3));
        furnish();
        for (int t = 0; t < 4; t++) if (random.nextInt(4) > 0) tellThing(t);
        for (int i = 0; i < 14; i++) layOrGoal(i < 8 ? i % 4 : random.nextInt(4));
        if (random.nextBoolean()) {
            for (int i = 0; i < 8; i++) call("cost", i < 4 ? -2 : -1, i % 4, random.nextInt(10));
        }
        if (random.nextInt(3) == 0) {
            call("image", 0);
            for (int t = 0; t < 4; t++) if (random.nextInt(3) == 0) tellThing(t);
            call("restore", 0);
        }
        int rounds = roomy ? 15 : 40;
        for (int i = 0; i < rounds && due.wrong() == 0; i++) {
            if (random.nextInt(4) == 0) change();
            else ask(roomy);
        }
    }

    private void furnish() {
        boolean maze = random.nextInt(3) == 0;
        int fills = maze ? model.sizeX * model.sizeY * model.sizeZ / 4 : random.nextInt(6);
        for (int i = 0; i < fills; i++) {
            int from = someCell(), to = maze || random.nextBoolean() ? from : someCell();
            call("fill", from, to, random.nextInt(3) == 0 ? random.nextInt(6) : 1 + random.nextInt(4));
        }
    }

    private int someCell() {
        return 100 * random.nextInt(model.sizeX) + 10 * random.nextInt(model.sizeY) + random.nextInt(model.sizeZ);
    }

    /** Mostly one that lies, if there is one. */
    private int someThing() {
        int t = random.nextInt(4);
        for (int tries = 0; tries < 6 && model.things[t].lies == null; tries++) t = random.nextInt(4);
        return t;
    }

    private int thingsThatLie() {
        int set = 0;
        for (int t = 0; t < 4; t++) set |= model.things[t].lies == null ? 0 : 1 << t;
        return set;
    }

    private int odd(int usual) {
        int[] odds = {-1, -2, -3, 4, 5, 6, 16, 40, 1000, Integer.MIN_VALUE, Integer.MAX_VALUE, usual + 1};
        return random.nextInt(25) == 0 ? odds[random.nextInt(odds.length)] : usual;
    }

    private void sayText(String text) {
        if (used + text.length() > 470) return;
        for (char sign : text.toCharArray()) call("say", sign);
    }

    /** Mostly small things, since big ones seldom lie in a small way. */
    private void tellThing(int t) {
        StringBuilder text = new StringBuilder();
        int cubes = 1 + random.nextInt(random.nextInt(6) == 0 ? 11 : 4);
        int reach = 1 + random.nextInt(random.nextInt(5) == 0 ? 4 : 2);
        for (int i = 0; i < cubes; i++) {
            for (int tries = 0; tries < 9; tries++) {
                String spot = "" + random.nextInt(reach) + random.nextInt(reach) + random.nextInt(reach);
                if (i == 0 && random.nextInt(8) > 0) spot = "000";
                if (text.indexOf(spot) % 4 == 0 && random.nextInt(30) > 0) continue;
                text.append(spot).append(i > 0 && random.nextBoolean() ? (char) ('a' + random.nextInt(4)) : '-');
                break;
            }
        }
        if (random.nextInt(8) == 0) text.setLength(random.nextInt(text.length() + 1));
        if (random.nextInt(15) == 0) text.append("!-/03489:`abcde~".charAt(random.nextInt(16)));
        sayText(text.toString());
        call("fault", 0);
        call("fault", odd(1));
        call("thing", odd(t));
        call("wipe");
    }

    private String someRow(String signs, int most) {
        StringBuilder text = new StringBuilder();
        int n = random.nextInt(most);
        for (int i = 0; i < n; i++) text.append(signs.charAt(random.nextInt(signs.length())));
        return text.toString();
    }

    private void layOrGoal(int t) {
        if (random.nextInt(3) == 0) {
            call("goal", odd(t), odd(someCell()));
            return;
        }
        String row = "";
        int cell = someCell();
        for (int tries = 0; tries < 12; tries++) {
            row = someRow(random.nextInt(9) == 0 ? "xyzXYZn!" : "xyzXYZ", 4);
            cell = someCell();
            if (wouldLie(t, row, cell)) break;
        }
        sayText(row);
        call("lay", odd(t), odd(cell));
        call("wipe");
    }

    private boolean wouldLie(int t, String row, int cell) {
        Model trial = new Model();
        trial.takeFrom(model);
        trial.pad = row;
        return trial.lay(t, cell) == 1;
    }

    private void change() {
        int t = random.nextInt(4);
        switch (random.nextInt(12)) {
            case 0: tellThing(t); break;
            case 1: case 2: case 3: layOrGoal(t); break;
            case 4: call("cost", odd(t), odd(random.nextInt(4)), odd(random.nextInt(10))); break;
            case 5: call("cost", odd(-1), odd(random.nextInt(4)), odd(random.nextInt(10))); break;
            case 6: call("cost", -2, random.nextInt(4), random.nextInt(10)); break;
            case 7: call("fill", odd(someCell()), odd(someCell()), odd(random.nextInt(6))); break;
            case 8: call("image", odd(random.nextInt(2))); break;
            case 9: call("restore", odd(random.nextInt(2))); break;
            case 10:
                sayText(someRow(Model.SIGNS, 3));
                call("move", odd(someThing()));
                call("wipe");
                break;
            default:
                if (random.nextInt(3) == 0) call("size", odd(1 + random.nextInt(4)), odd(1 + random.nextInt(4)), odd(2));
        }
    }

    private void ask(boolean roomy) {
        int t = someThing(), parts = odd(random.nextInt(16)), doors = odd(random.nextInt(16));
        switch (random.nextInt(roomy ? 10 : 12)) {
            case 0: askRow("goes", t, parts, doors); break;
            case 1: askRow("goes", t, 0, 0); break;
            case 2: case 3: askRow("effort", t, parts, doors); break;
            case 4: case 5: call("room", odd(t), odd(random.nextInt(3))); break;
            case 6:
                sayText(someRow(random.nextInt(9) == 0 ? "nsweuvxyzXYZ-" : Model.SIGNS, 6));
                call("judge", odd(t), odd(0));
                call("judge", t, odd(1));
                call("wipe");
                break;
            case 7:
                for (int cube = -1; cube < 4; cube++) call("cube", odd(t), cube, odd(random.nextInt(4)));
                call("told", odd(random.nextInt(40)));
                call("told", 10 * random.nextInt(4) + t);
                call("cell", odd(someCell()));
                break;
            case 8:
                int lying = thingsThatLie();
                int set = odd(random.nextInt(4) == 0 ? random.nextInt(16) : random.nextBoolean() ? lying : lying & random.nextInt(16));
                for (int i = -1; i < 5; i++) call("order", set, i);
                break;
            case 9: call("bar", doors); break;
            case 10:
                for (int what = 0; what < 3; what++) call("least", t, odd(what));
                break;
            default:
                for (int what = 0; what < 2; what++) call("came", odd(t), odd(what));
        }
    }

    private void askRow(String name, int t, int parts, int doors) {
        int moves = call(name, t, parts, doors, -1);
        for (int i = 0; i <= Math.min(Math.max(moves, 0), 8); i++) call(name, t, parts, doors, i);
        call(name, odd(t), parts, doors, -2);
    }

    private int call(String name, int... n) {
        if (used >= 512 || due.wrong() != 0) return 0;
        used++;
        StringBuilder text = new StringBuilder(name).append('(');
        for (int i = 0; i < n.length; i++) text.append(i > 0 ? ", " : "").append(n[i]);
        int got = answer(stair, name, n);
        calls.add(text.append(") = ").append(got).toString());
        due.is("call " + used + " " + text, got, answer(model, name, n));
        return got;
    }

    private static int answer(Object target, String name, int[] n) {
        Class<?>[] types = new Class<?>[n.length];
        Object[] numbers = new Object[n.length];
        for (int i = 0; i < n.length; i++) {
            types[i] = int.class;
            numbers[i] = n[i];
        }
        try {
            return (Integer) target.getClass().getDeclaredMethod(name, types).invoke(target, numbers);
        } catch (ReflectiveOperationException e) {
            throw new IllegalStateException(name, e);
        }
    }
}
