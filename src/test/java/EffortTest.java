import java.util.Random;

/** EFFORT and GOES in large ways with many walls and costs of all kinds, MOVE by MOVE as the Model has them. */
public final class EffortTest {
    private static final String[] THINGS = {"000-", "000-100-", "000-100a110-", "000-100-200-001b", "000-111-",
        "000-100-010-001-"};

    public static void main(String[] args) {
        Due due = new Due();
        int rows = 0;
        for (int seed = 0; seed < 120; seed++) {
            due.about("seed " + seed);
            rows += run(new Random(seed), due);
        }
        due.holds(rows + " rows of MOVES", rows > 60);
        due.end();
    }

    private static int run(Random random, Due due) {
        SofaStair stair = new SofaStair();
        Model model = new Model();
        int x = 4 + random.nextInt(3), y = 4 + random.nextInt(3), z = 2 + random.nextInt(3);
        stair.size(x, y, z);
        model.size(x, y, z);
        for (int i = 0; i < x * y * z / 3; i++) {
            int cell = 100 * random.nextInt(x) + 10 * random.nextInt(y) + random.nextInt(z);
            int kind = random.nextInt(4) == 0 ? 2 : 1;
            stair.fill(cell, cell, kind);
            model.fill(cell, cell, kind);
        }
        for (int which = 0; which < 4; which++) {
            int v = random.nextInt(3) == 0 ? 0 : random.nextInt(10);
            stair.cost(-2, which, v);
            model.cost(-2, which, v);
        }
        String thing = THINGS[random.nextInt(THINGS.length)];
        Due.say(stair, thing);
        model.pad = thing;
        due.is("thing", stair.thing(0), model.thing(0));
        int lies = -5;
        for (int tries = 0; tries < 200 && lies != 1; tries++) {
            int cell = 100 * random.nextInt(x) + 10 * random.nextInt(y) + random.nextInt(z);
            lies = stair.lay(0, cell);
            due.is("lay", lies, model.lay(0, cell));
        }
        int rows = 0;
        for (int goals = 0; goals < 3; goals++) {
            int cell = 100 * random.nextInt(x) + 10 * random.nextInt(y) + random.nextInt(z);
            stair.goal(0, cell);
            model.goal(0, cell);
            int parts = random.nextInt(4), doors = random.nextInt(2);
            rows += sameRow(stair, model, parts, doors, due);
        }
        return rows;
    }

    private static int sameRow(SofaStair stair, Model model, int parts, int doors, Due due) {
        Model.Thing it = model.things[0];
        if (it.lies == null) return 0;
        Model.Way cheap = model.cheapest(it, parts, doors);
        Model.Way quick = model.shortest(it.cubes, it.lies, it.goal, parts, doors, java.util.Set.of());
        due.is("effort", stair.effort(0, parts, doors, -1), cheap == null ? -6 : cheap.sum());
        due.is("goes", stair.goes(0, parts, doors, -1), quick == null ? -6 : quick.row().length());
        if (cheap == null || quick == null) return 0;
        for (int i = 0; i <= cheap.row().length(); i++) {
            due.is("effort " + i, stair.effort(0, parts, doors, i), sign(cheap.row(), i));
        }
        for (int i = 0; i <= quick.row().length(); i++) {
            due.is("goes " + i, stair.goes(0, parts, doors, i), sign(quick.row(), i));
        }
        return quick.row().length() > 0 ? 1 : 0;
    }

    private static int sign(String row, int i) {
        return i < row.length() ? Model.SIGNS.charAt(row.charAt(i) - 'a') : -6;
    }
}
