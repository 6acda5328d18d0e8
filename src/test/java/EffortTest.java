import java.util.Random;

/** EFFORT and GOES in large ways with many walls and costs of all kinds, MOVE by MOVE as the Model has them. */
public final class EffortTest {
    private static final String[] THINGS = {"000-", "000-100-", "000-100a110-", "000-100-200-001b", "000-111-",
        "000-100-010-001-"};

    public static void main(String[] args) {
        Due due = new Due();
        int rows = 0;
        for (int seed = 0; seed < 120; seed++) {
            due.about("seed " + seed);
            rows += run(new Random(seed), due);
        }
        due.holds(rows + " rows of MOVES", rows > 60);
        hard(due);
        due.end();
    }

    /**
     * Found among millions of ways: here a STAND that was come to dearly is soon come to for less. The numbers are X, Y,
     * Z, the four costs of MOVES, the CELL where it lies and its GOAL.
     */
    private static void hard(Due due) {
        int[][] walls = {{0, 20, 102, 121, 201}, {110, 111, 310, 400},
            {0, 102, 120, 121, 302, 331, 332, 421, 502}};
        int[][] numbers = {{3, 3, 3, 9, 9, 0, 0, 10, 0}, {5, 2, 3, 0, 0, 7, 7, 201, 200},
            {6, 5, 3, 0, 0, 6, 2, 201, 411}};
        int[] sums = {27, 14, 8};
        for (int one = 0; one < walls.length; one++) {
            due.about("hard way " + one);
            SofaStair stair = new SofaStair();
            Model model = new Model();
            int[] n = numbers[one];
            due.is("size", stair.size(n[0], n[1], n[2]), model.size(n[0], n[1], n[2]));
            for (int cell : walls[one]) due.is("wall", stair.fill(cell, cell, 1), model.fill(cell, cell, 1));
            for (int i = 0; i < 4; i++) due.is("cost", stair.cost(-2, i, n[3 + i]), model.cost(-2, i, n[3 + i]));
            model.pad = "000-100-200-210-201-";
            Due.say(stair, model.pad);
            due.is("thing", stair.thing(0), model.thing(0));
            due.is("lay", stair.lay(0, n[7]), model.lay(0, n[7]));
            due.is("goal", stair.goal(0, n[8]), model.goal(0, n[8]));
            due.is("sum", stair.effort(0, 0, 0, -1), sums[one]);
            sameRow(stair, model, 0, 0, due);
        }
    }

    private static int run(Random random, Due due) {
        SofaStair stair = new SofaStair();
        Model model = new Model();
        int x = 4 + random.nextInt(3), y = 4 + random.nextInt(3), z = 2 + random.nextInt(3);
        stair.size(x, y, z);
        model.size(x, y, z);
        for (int i = 0; i < x * y * z / 3; i++) {
            int cell = 100 * random.nextInt(x) + 10 * random.nextInt(y) + random.nextInt(z);
            int kind = random.nextInt(4) == 0 ? 2 : 1;
            stair.fill(cell, cell, kind);
            model.fill(cell, cell, kind);
        }
        for (int which = 0; which < 4; which++) {
            int v = random.nextInt(3) == 0 ? 0 : random.nextInt(10);
            stair.cost(-2, which, v);
            model.cost(-2, which, v);
        }
        String thing = THINGS[random.nextInt(THINGS.length)];
        Due.say(stair, thing);
        model.pad = thing;
        due.is("thing", stair.thing(0), model.thing(0));
        int lies = -5;
        for (int tries = 0; tries < 200 && lies != 1; tries++) {
            int cell = 100 * random.nextInt(x) + 10 * random.nextInt(y) + random.nextInt(z);
            lies = stair.lay(0, cell);
            due.is("lay", lies, model.lay(0, cell));
        }
        int rows = 0;
        for (int goals = 0; goals < 3; goals++) {
            int cell = 100 * random.nextInt(x) + 10 * random.nextInt(y) + random.nextInt(z);
            stair.goal(0, cell);
            model.goal(0, cell);
            int parts = random.nextInt(4), doors = random.nextInt(2);
            rows += sameRow(stair, model, parts, doors, due);
        }
        return rows;
    }

    private static int sameRow(SofaStair stair, Model model, int parts, int doors, Due due) {
        Model.Thing it = model.things[0];
        if (it.lies == null) return 0;
        Model.Way cheap = model.cheapest(it, parts, doors);
        Model.Way quick = model.shortest(it.cubes, it.lies, it.goal, parts, doors, java.util.Set.of());
        due.is("effort", stair.effort(0, parts, doors, -1), cheap == null ? -6 : cheap.sum());
        due.is("goes", stair.goes(0, parts, doors, -1), quick == null ? -6 : quick.row().length());
        if (cheap == null || quick == null) return 0;
        for (int i = 0; i <= cheap.row().length(); i++) {
            due.is("effort " + i, stair.effort(0, parts, doors, i), sign(cheap.row(), i));
        }
        for (int i = 0; i <= quick.row().length(); i++) {
            due.is("goes " + i, stair.goes(0, parts, doors, i), sign(quick.row(), i));
        }
        return quick.row().length() > 0 ? 1 : 0;
    }

    private static int sign(String row, int i) {
        return i < row.length() ? Model.SIGNS.charAt(row.charAt(i) - 'a') : -6;
    }
}
