/** The sentences about lying, JUDGED, GOES, EFFORT, COMES TO, SCRAPES and TURNABLE, and promises 11 to 17. */
final class GoingSentences {
    private static final String SCENE = WaySentences.SCENE;
    private static final String LESS_THAN_TEN = "000-010-020-030-100-110-120-130-200-";

    private final Sentences s;

    GoingSentences(Sentences s) {
        this.s = s;
    }

    void all() {
        lying();
        goals();
        others();
        judged();
        goes();
        firstByTheOrder();
        effort();
        effortOfEqualSums();
        comesTo();
        scrapes();
        turnable();
        promises11And12();
        promises13And14();
        promises15To17();
    }

    private void lying() {
        s.sentence("THINGS that were told lie in THE WAY, or not (not at first): from a CELL, as told or TURNED by"
                + " a ROW.");
        s.run("say 000-100a | thing(0) | told(20) = NONE | lay(0, 0) = 1 | told(20) = 0 | CUBES(0) = 000- 100a", """
            say z | lay(0, 210) = 1 | told(20) = 210 | CUBES(0) = 000- 010a
            say Z | lay(0, 210) = 1 | CUBES(0) = 010- 000a
            lay(0, 0) = 1 | CUBES(0) = 000- 100a
            say zz | lay(0, 0) = 1 | CUBES(0) = 100- 000a | say zz | lay(0, 0) = 1 | CUBES(0) = 100- 000a
            say xyz | lay(0, 551) = NO | told(20) = 0
            """);
    }

    private void goals() {
        s.sentence("A THING has a GOAL: a CELL (for its least corner, however it lies; 0 at first).");
        for (int thing = 0; thing < 4; thing++) {
            s.run("told(3" + thing + ") = 0 | goal(" + thing + ", 551) = 0 | goal(" + thing + ", 0) = 551");
        }
        s.run("size(2, 2, 1) | say 000- | thing(0) | lay(0, 110) | GOES(0, 0, 0) = nw");
        // it comes there turned alone, or where no CUBE is at its least corner
        s.run("size(2, 2, 1) | say 000-100- | thing(0) | lay(0, 0) | goal(0, 100) | GOES(0, 0, 0) = ze",
                "goal(0, 10) | GOES(0, 0, 0) = s");
        s.run("size(3, 2, 1) | say 100-010- | thing(0) | lay(0, 0) | fill(100, 100, 0) | goal(0, 100)",
                "GOES(0, 0, 0) = e",
                "fill(100, 100, 1) | goes(0, 0, 0, -1) = NONE | lay(0, 0) = NO | lay(0, 100) = 1 | GOES(0, 0, 0) = .");
    }

    private void others() {
        s.sentence("For all that is asked of one THING the others are not there (but for ORDER).");
        s.run("size(3, 1, 1) | say 000- | thing(0) | say 000- | thing(1) | say 000-100- | thing(2)", """
            lay(2, 100) = 1 | lay(1, 100) = 1 | lay(0, 100) = 1 | lay(0, 0) = 1 | goal(0, 200)
            JUDGED(0) ee = NONE | say e | move(0) = 100 | say w | move(0) = 0
            GOES(0, 0, 0) = ee | EFFORT(0, 0, 0) = 2 ee | room(0, 0) = 72 | room(0, 1) = 4 | room(0, 2) = 3
            LEAST(0) = 0 0 0 | CAME(0) = 16 0 | bar(0) = 1 | goal(0, 0) | bar(0) = 3 | goal(0, 200)
            ORDER(3) = NONE | ORDER(1) = 0 | ORDER(2) = 1
            GOES(0, 0, 0) = ee | room(0, 0) = 72 | LEAST(0) = 0 0 0 | CAME(0) = 16 0
            """);
    }

    private void judged() {
        s.sentence("JUDGED: the first MOVE of a ROW (from where it lies, nothing off), by which it does not FIT,"
                + " and why: 1 its CELL or a CUBE is beyond CELLS, 2 in a wall or a DOOR; the least.");
        s.run("size(3, 3, 2) | say 000-100a | thing(0) | lay(0, 10) | fill(200, 201, 1) | fill(220, 221, 4)", """
            JUDGED(0) = NONE | JUDGED(0) e = NONE | JUDGED(0) w = 0 1 | JUDGED(0) ee = 1 1 | JUDGED(0) uu = 1 1
            JUDGED(0) en = 1 2 | JUDGED(0) es = 1 2 | JUDGED(0) ne = 1 2 | JUDGED(0) enw = 1 2 | JUDGED(0) wn = 0 1
            JUDGED(0) ewewewewe = NONE | JUDGED(0) ewewewewen = 9 2 | JUDGED(0) y = NONE | JUDGED(0) yu = 1 1
            JUDGED(0) z = NONE | JUDGED(0) zs = 1 1 | JUDGED(0) eZ = NONE | JUDGED(0) eZe = 2 2
            JUDGED(0) zzxXZZ = NONE
            """);
        // a CUBE in a wall and another one beyond CELLS: the least of both, whichever comes first
        s.run("size(3, 1, 1) | say 000-100- | thing(0) | lay(0, 100) | fill(200, 200, 1) | JUDGED(0) e = 0 1",
                "fill(200, 200, 0) | say zz | lay(0, 100) | fill(200, 200, 5) | JUDGED(0) e = 0 1 | fill(0, 0, 5)",
                "JUDGED(0) w = 0 2 | fill(100, 200, 0) | JUDGED(0) w = 0 2 | JUDGED(0) z = 0 1");
        // where it lies is not asked, but each MOVE from there is, a TURN, too
        s.run("size(3, 1, 1) | say 000- | thing(0) | lay(0, 0) | fill(0, 0, 1) | JUDGED(0) = NONE | JUDGED(0) e = NONE",
                "JUDGED(0) x = 0 2 | JUDGED(0) ew = 1 2 | JUDGED(0) eew = NONE | fill(0, 0, 2) | JUDGED(0) z = 0 2");
    }

    private void goes() {
        s.sentence("GOES: the fewest MOVES from where it lies to its GOAL, PARTS of a set being off (bits), DOORS"
                + " of a set being off; each STAND on the way FITS, the first, too;");
        for (int one = 0; one < 4; one++) {
            StringBuilder parts = new StringBuilder("size(2, 1, 1) | say 000-100" + (char) ('a' + one));
            StringBuilder doors = new StringBuilder("size(2, 1, 1) | say 000- | thing(0) | lay(0, 0) | goal(0, 100)");
            parts.append(" | thing(0) | lay(0, 0) | goal(0, 100)");
            doors.append(" | fill(100, 100, " + (2 + one) + ")");
            for (int set = 0; set < 16; set++) {
                String moves = (set >> one & 1) == 1 ? "1" : "NONE";
                for (int other = 0; other < 16; other += 15) {
                    parts.append(" | goes(0, " + set + ", " + other + ", -1) = " + moves);
                    doors.append(" | goes(0, " + other + ", " + set + ", -1) = " + moves);
                }
            }
            s.run(parts.toString());
            s.run(doors.toString());
        }
        s.run("size(2, 1, 1) | say 000-100a | thing(0) | lay(0, 0) | GOES(0, 0, 0) = . | fill(100, 100, 2)",
                "goes(0, 0, 0, -1) = NONE | goes(0, 0, 0, 0) = NONE | GOES(0, 1, 0) = . | GOES(0, 0, 1) = .",
                "GOES(0, 15, 15) = .",
                "fill(100, 100, 1) | goes(0, 0, 15, -1) = NONE | GOES(0, 1, 0) = . | fill(0, 0, 1)",
                "goes(0, 15, 15, -1) = NONE");
        // the fewest, not the first that is found: round the wall it is nearer by s than by n
        s.run("size(3, 4, 1) | fill(110, 120, 1) | say 000- | thing(0) | lay(0, 20) | goal(0, 220)",
                "GOES(0, 0, 0) = seen",
                "fill(130, 130, 1) | GOES(0, 0, 0) = nneess | fill(100, 100, 1) | goes(0, 0, 0, -1) = NONE");
        s.run("size(6, 6, 4) | say 000- | thing(0) | lay(0, 0) | goal(0, 553) | GOES(0, 0, 0) = ssssseeeeeuuu",
                "lay(0, 553) | goal(0, 0) | GOES(0, 0, 0) = nnnnnwwwwwvvv");
        longRow();
    }

    /** Back and forth between walls, up through a hole, and back: 40 MOVES are the most of a text, not of GOES. */
    private void longRow() {
        StringBuilder calls = new StringBuilder("size(6, 6, 3) | say 000- | thing(0) | lay(0, 0)");
        calls.append(" | fill(1, 551, 1) | fill(551, 551, 0) | fill(100, 140, 1) | fill(310, 350, 1)");
        calls.append(" | fill(102, 142, 1) | fill(312, 352, 1)");
        String row = "sssss" + "ee" + "nnnnn" + "ee" + "sssss" + "e" + "uu"
                + "nnnnn" + "www" + "sssss" + "ww" + "nnnnn";
        for (int moves = 39; moves <= 42; moves++) {
            s.about(moves + " MOVES");
            String there = row.substring(0, moves);
            s.run(calls.toString(), "goal(0, " + (2 + 10 * (42 - moves)) + ")",
                    "GOES(0, 0, 0) = " + there, "EFFORT(0, 0, 0) = " + moves + " " + there);
        }
        s.run(calls.toString(), "fill(551, 551, 1) | goal(0, 2) | goes(0, 0, 0, -1) = NONE");
    }

    private void firstByTheOrder() {
        s.sentence("the first ROW by the order n s w e u v x y z X Y Z.");
        goesFirst("1, 3, 3", "11", "000-", "", 10, 12, "nuus"); // not suun
        goesFirst("2, 2, 1", "", "000-", "", 100, 10, "sw"); // not ws
        goesFirst("3, 1, 3", "101", "000-", "", 102, 100, "wvve"); // not evvw
        goesFirst("2, 1, 2", "", "000-", "", 0, 101, "eu"); // not ue
        goesFirst("3, 1, 3", "101", "000-", "", 1, 201, "ueev"); // not veeu
        goesFirst("1, 2, 3", "", "000-100-", "Z", 1, 10, "vxs"); // not xsv
        goesFirst("2, 2, 2", "", "000-001-", "", 0, 1, "xu"); // not yu
        goesFirst("2, 2, 2", "", "000-100-", "", 10, 100, "nye"); // not nze
        goesFirst("2, 2, 3", "0 112", "000-100-010-", "Z", 1, 101, "zYe"); // not Xze
        goesFirst("2, 2, 2", "10", "000-100-101-", "", 0, 100, "XYe"); // not YZe
        goesFirst("2, 2, 3", "110 111 112", "000-100-110-", "X", 0, 2, "uYxu"); // not uZYu
    }

    private void goesFirst(String size, String walls, String thing, String turns, int cell, int goal, String row) {
        s.run(told(size, walls, thing, turns, cell, goal), "GOES(0, 0, 0) = " + row);
    }

    private static String told(String size, String walls, String thing, String turns, int cell, int goal) {
        StringBuilder calls = new StringBuilder("size(" + size + ") | say " + thing + " | thing(0)");
        for (String wall : walls.split(" ")) {
            if (!wall.isEmpty()) calls.append(" | fill(" + wall + ", " + wall + ", 1)");
        }
        if (!turns.isEmpty()) calls.append(" | say " + turns);
        return calls + " | lay(0, " + cell + ") = 1 | goal(0, " + goal + ")";
    }

    private void effort() {
        s.sentence("EFFORT: costs of going (n s w e), lifting (u; for each CUBE that is on), letting down (v),"
                + " turning (0 to 9 each; 1, 1, 1, 1 at first): the least sum of a ROW;");
        eachMoveCosts("n", 101, 0);
        eachMoveCosts("s", 121, 0);
        eachMoveCosts("w", 11, 0);
        eachMoveCosts("e", 211, 0);
        eachMoveCosts("u", 112, 1);
        eachMoveCosts("v", 110, 2);
        // a TURN and the ROW behind it; about each axis, and the other way round
        eachTurnCosts("2, 2, 2", "", "000-001-", "", 0, 1, "xu");
        eachTurnCosts("2, 2, 2", "", "000-100-", "", 0, 100, "ye");
        eachTurnCosts("2, 2, 3", "0 112", "000-100-010-", "Z", 1, 101, "zYe");
        eachTurnCosts("2, 2, 2", "10", "000-100-101-", "", 0, 100, "XYe");
        eachTurnCosts("2, 2, 1", "100", "000-100a", "", 0, 100, "Ze");
        for (int cubes = 1; cubes <= 9; cubes++) {
            s.run("size(4, 4, 4) | say " + LESS_THAN_TEN.substring(0, 4 * cubes) + " | thing(0) | lay(0, 0)",
                    "goal(0, 1)",
                    "EFFORT(0, 0, 0) = " + cubes + " u | cost(-2, 1, 9) = 1 | EFFORT(0, 0, 0) = " + 9 * cubes + " u");
        }
        s.run("size(4, 4, 4) | say " + LESS_THAN_TEN + "210- | thing(0) = 10 | lay(0, 0) | goal(0, 3)",
                "EFFORT(0, 0, 0) = 30 uuu | cost(-2, 1, 9) | EFFORT(0, 0, 0) = 270 uuu | cost(-2, 1, 0)",
                "EFFORT(0, 0, 0) = 0 uuu",
                "lay(0, 3) | goal(0, 0) | EFFORT(0, 0, 0) = 3 vvv | cost(-2, 2, 9) | EFFORT(0, 0, 0) = 27 vvv");
        // those that are off are not lifted
        s.run("size(3, 3, 2) | say 000-100a200a010b | thing(0) | lay(0, 0) | goal(0, 1) | cost(-2, 1, 5)", """
            EFFORT(0, 0, 0) = 20 u | EFFORT(0, 1, 0) = 10 u | EFFORT(0, 2, 0) = 15 u | EFFORT(0, 3, 0) = 5 u
            EFFORT(0, 12, 15) = 20 u | EFFORT(0, 15, 15) = 5 u
            """);
        // over the door, round it, or through it
        s.run("size(3, 2, 2) | fill(100, 100, 3) | say 000- | thing(0) | lay(0, 0) | goal(0, 200)", """
            EFFORT(0, 0, 0) = 4 seen | EFFORT(0, 0, 2) = 2 ee | EFFORT(0, 0, 13) = 4 seen
            cost(-2, 1, 0) | EFFORT(0, 0, 0) = 3 ueev | cost(-2, 0, 9) | EFFORT(0, 0, 0) = 19 ueev
            cost(-2, 1, 9) | cost(-2, 2, 9) | EFFORT(0, 0, 0) = 36 seen | fill(110, 110, 1) | EFFORT(0, 0, 0) = 36 ueev
            fill(101, 101, 1) | EFFORT(0, 0, 0) = 54 sueenv | fill(0, 0, 3)
            effort(0, 0, 0, -1) = NONE | effort(0, 0, 0, 0) = NONE | EFFORT(0, 0, 2) = 18 ee
            """);
        // there is one STAND only; there is one at the GOAL, and one before it
        s.run("size(1, 3, 4) | say " + WaySentences.TEN + " | thing(0) | lay(0, 0) | room(0, 0) = 1",
                "EFFORT(0, 0, 0) = 0 .");
        s.run("size(2, 3, 4) | fill(123, 123, 1) | say " + WaySentences.TEN + " | thing(0) | lay(0, 0)",
                "room(0, 0) = 2 | EFFORT(0, 0, 0) = 0 .",
                "goal(0, 100) | EFFORT(0, 0, 0) = 1 e | say e | move(0) = 100 | goal(0, 0) | EFFORT(0, 0, 0) = 1 w");
        s.run("size(2, 1, 1) | say 000- | thing(0) | lay(0, 0) | EFFORT(0, 0, 0) = 0 . | goal(0, 100)",
                "fill(100, 100, 1)",
                "effort(0, 0, 15, -1) = NONE | effort(0, 0, 0, 0) = NONE | goal(0, 0) | fill(0, 0, 1)",
                "effort(0, 0, 0, -1) = NONE");
    }

    private void eachMoveCosts(String move, int goal, int which) {
        StringBuilder calls = new StringBuilder("size(3, 3, 3) | say 000- | thing(0) | lay(0, 111)");
        calls.append(" | goal(0, " + goal + ") | EFFORT(0, 0, 0) = 1 " + move);
        for (int other = 0; other < 4; other++) {
            int cost = other == which ? 9 : 1;
            calls.append(" | cost(-2, " + other + ", 9) = 1 | EFFORT(0, 0, 0) = " + cost + " " + move);
            calls.append(" | cost(-2, " + other + ", 0) = 9");
            if (other == which) calls.append(" | EFFORT(0, 0, 0) = 0 " + move);
            calls.append(" | cost(-2, " + other + ", 1) = 0");
        }
        s.run(calls.toString());
    }

    /** The ROW ends with one MOVE; the others are TURNS. */
    private void eachTurnCosts(String size, String walls, String thing, String turns, int cell, int goal, String row) {
        int turned = row.length() - 1, lifted = row.endsWith("u") ? 2 : 1;
        boolean part = thing.contains("a");
        String before = part ? told(size, "", thing, turns, cell, goal) + " | fill(" + walls + ", " + walls + ", 1)"
                : told(size, walls, thing, turns, cell, goal);
        String asked = "EFFORT(0, " + (part ? 1 : 0) + ", 0) = ";
        s.run(before, asked + (turned + lifted) + " " + row, "cost(-2, 3, 9) = 1",
                asked + (9 * turned + lifted) + " " + row,
                "cost(-2, 3, 0) = 9", asked + lifted + " " + row);
    }

    private void effortOfEqualSums() {
        s.sentence("of such ROWS those of the fewest MOVES, of these the first.");
        s.run("size(3, 2, 2) | fill(100, 100, 1) | say 000- | thing(0) | lay(0, 0) | goal(0, 200)", """
            cost(-2, 1, 0) | cost(-2, 2, 2) | EFFORT(0, 0, 0) = 4 seen | fill(110, 110, 1) | EFFORT(0, 0, 0) = 4 ueev
            fill(110, 110, 0) | cost(-2, 2, 0) | cost(-2, 0, 0) | EFFORT(0, 0, 0) = 0 seen
            """);
        // there is one ROW only, whatever it costs; and no MOVE more than is needed, where all cost nothing
        s.run("size(3, 1, 3) | fill(100, 101, 1) | say 000- | thing(0) | lay(0, 0) | goal(0, 200) | cost(-2, 1, 0)",
                "cost(-2, 2, 0)",
                "EFFORT(0, 0, 0) = 2 uueevv | cost(-2, 0, 0) | EFFORT(0, 0, 0) = 0 uueevv");
        s.run("size(2, 2, 2) | say 000- | thing(0) | lay(0, 0) | goal(0, 100)",
                "cost(-2, 0, 0) | cost(-2, 1, 0) | cost(-2, 2, 0) | cost(-2, 3, 0) | EFFORT(0, 0, 0) = 0 e");
        effortFirst("1, 3, 3", "11", "000-", "", 10, 12, 3, 0, 3, 0, "6 nuus"); // not suun
        effortFirst("2, 2, 1", "", "000-", "", 100, 10, 1, 1, 3, 3, "2 sw"); // not ws
        effortFirst("3, 1, 3", "101", "000-", "", 100, 102, 0, 1, 2, 3, "2 wuue"); // not euuw
        effortFirst("2, 1, 2", "", "000-", "", 0, 101, 2, 0, 2, 2, "2 eu"); // not ue
        effortFirst("1, 3, 3", "11", "000-", "", 1, 21, 0, 2, 3, 0, "5 ussv"); // not vssu
        effortFirst("1, 2, 2", "", "000-100-", "z", 1, 10, 1, 2, 1, 0, "2 vxs"); // not vXs
        effortFirst("2, 2, 2", "", "000-001-", "", 0, 1, 1, 1, 1, 2, "4 xu"); // not yu
        effortFirst("2, 2, 2", "", "000-100-", "", 0, 100, 0, 2, 3, 3, "3 ye"); // not ze
        effortFirst("2, 2, 2", "111", "000-100-010-", "Z", 0, 100, 1, 1, 2, 3, "7 zYe"); // not Xze
        effortFirst("2, 3, 3", "10 22 101", "000-100-010-", "", 11, 1, 3, 3, 3, 2, "5 Xn"); // not Yn
        effortFirst("2, 2, 2", "110", "000-100-110-", "X", 0, 1, 2, 3, 2, 1, "11 Yxu"); // not ZYu
    }

    private void effortFirst(String size, String walls, String thing, String turns, int cell, int goal, int going,
            int lifting, int down, int turning, String row) {
        s.run(told(size, walls, thing, turns, cell, goal),
                "cost(-2, 0, " + going + ") = 1 | cost(-2, 1, " + lifting + ") = 1",
                "cost(-2, 2, " + down + ") = 1 | cost(-2, 3, " + turning + ") = 1 | EFFORT(0, 0, 0) = " + row);
    }

    private void comesTo() {
        s.sentence("COMES TO: how many STANDS it can come to from where it lies, that one, too (nothing off; 0, if"
                + " it does not FIT there any more).");
        // it can not stir: that one alone
        s.run("size(4, 3, 1) | say 000-100-200-300-010-020-120-320- | thing(0) | lay(0, 0) | room(0, 0) = 1");
        s.run("size(2, 1, 1) | say 000-100a | thing(0) | lay(0, 0) | room(0, 0) = 4 | fill(100, 100, 2)",
                "room(0, 0) = 0",
                "fill(100, 100, 1) | room(0, 0) = 0 | fill(100, 100, 0) | fill(0, 0, 5) | room(0, 0) = 0",
                "fill(0, 0, 0) | room(0, 0) = 4");
        s.run("size(3, 1, 1) | say 000- | thing(0) | lay(0, 0) | room(0, 0) = 72 | fill(100, 100, 4) | room(0, 0) = 24",
                "fill(100, 100, 0) | fill(200, 200, 1) | room(0, 0) = 48 | goal(0, 200) | room(0, 0) = 48");
    }

    private void scrapes() {
        s.sentence("SCRAPES of where it lies: faces of its CUBES against a wall, a DOOR or beyond CELLS, those"
                + " below its CUBES and those between two of its own not.");
        String wide = "000-200-110-310-020-220-130-330-101-301-";
        s.run("size(6, 6, 4) | say " + wide + " | thing(0) = 10 | lay(0, 111) | room(0, 1) = 0");
        StringBuilder calls = new StringBuilder("size(4, 4, 2) | fill(0, 331, 1) = 32 | say " + wide + " | thing(0)");
        for (int i = 0; i < 40; i += 4) {
            String cell = wide.substring(i, i + 3);
            calls.append(" | fill(" + Integer.parseInt(cell) + ", " + Integer.parseInt(cell) + ", 0) = 1");
        }
        s.run(calls.toString(), "lay(0, 0) = 1 | room(0, 1) = 50 | fill(0, 331, 3) | room(0, 1) = 50");
        s.run("size(1, 1, 1) | say 000- | thing(0) | lay(0, 0) | room(0, 1) = 5 | fill(0, 0, 1) | room(0, 1) = 5");
        String middle = "size(3, 3, 3) | say 000- | thing(0) | lay(0, 111) | room(0, 1) = 0";
        for (int kind = 0; kind <= 5; kind++) {
            int one = kind == 0 ? 0 : 1;
            for (int beside : new int[] {11, 211, 101, 121, 112}) {
                s.run(middle, "fill(" + beside + ", " + beside + ", " + kind + ") | room(0, 1) = " + one);
            }
            s.run(middle, "fill(110, 110, " + kind + ") | room(0, 1) = 0 | fill(0, 222, " + kind + ")",
                    "room(0, 1) = " + 5 * one);
        }
        // two of its own side by side, one upon the other, and corner to corner with a wall between
        s.run("size(2, 1, 1) | say 000-100- | thing(0) | lay(0, 0) | room(0, 1) = 8 | fill(0, 100, 1)",
                "room(0, 1) = 8");
        s.run("size(1, 2, 1) | say 000-010- | thing(0) | lay(0, 0) | room(0, 1) = 8 | fill(0, 10, 1) | room(0, 1) = 8");
        s.run("size(1, 1, 2) | say 000-001- | thing(0) | lay(0, 0) | room(0, 1) = 9 | fill(0, 1, 1) | room(0, 1) = 9");
        s.run("size(2, 2, 1) | say 000-110- | thing(0) | lay(0, 0) | room(0, 1) = 6 | fill(10, 10, 1) | room(0, 1) = 8",
                "fill(100, 100, 5) | room(0, 1) = 10 | fill(10, 10, 0) | fill(100, 100, 0) | say z | move(0)",
                "room(0, 1) = 6");
        // PARTS are on; below a CUBE that stands out nothing counts
        s.run("size(2, 1, 2) | say 000-001a101b | thing(0) | lay(0, 0) | room(0, 1) = 11 | fill(100, 100, 1)",
                "room(0, 1) = 12");
    }

    private void turnable() {
        s.sentence("TURNABLE: CELLS at which it FITS in all four ways that z turns it from how it lies.");
        s.run("size(6, 6, 4) | say 000- | thing(0) | lay(0, 0) | room(0, 2) = 144 | fill(0, 0, 1) | room(0, 2) = 143",
                "fill(0, 553, 2) | room(0, 2) = 0");
        s.run("size(1, 1, 1) | say 000- | thing(0) | lay(0, 0) | room(0, 2) = 1 | size(2, 1, 1) | lay(0, 0)",
                "room(0, 2) = 2 | say 000-100- | thing(0) | lay(0, 0) | room(0, 2) = 0");
        s.run("size(3, 3, 1) | say 000-100- | thing(0) | lay(0, 0) | room(0, 2) = 4 | fill(0, 0, 1) | room(0, 2) = 3",
                "fill(0, 0, 0) | fill(220, 220, 3) | room(0, 2) = 4 | fill(120, 120, 3) | room(0, 2) = 3");
        // upright it is turned everywhere, and how it was told does not matter
        s.run("size(3, 3, 2) | say 000-100a | thing(0) | lay(0, 0) | room(0, 2) = 8 | say y | lay(0, 0)",
                "room(0, 2) = 9",
                "fill(221, 221, 5) | room(0, 2) = 8 | say z | lay(0, 0) | room(0, 2) = 8");
        // each of the four ways hinders where it alone does not FIT
        String[] bent = {"000-100-200-210-", "000-100-200-210-", "000-100-200-010-", "000-100-200-010-"};
        int[] needed = {200, 120, 210, 20};
        for (int way = 0; way < 4; way++) {
            s.about("the way after " + way + " TURNS");
            s.run("size(3, 3, 1) | say " + bent[way] + " | thing(0) | lay(0, 0) | room(0, 2) = 1",
                    "fill(" + needed[way] + ", " + needed[way] + ", 1) | room(0, 2) = 0");
        }
    }

    private void promises11And12() {
        s.sentence("`int lay(int thing, int cell)`: A THING lies at a CELL, as told and then TURNED by the ROW on"
                + " the PAD (TURNS alone; it is empty then): 1. UNKNOWN; STATE: it was not told; NO: a FAULT, or"
                + " another MOVE than a TURN; it does not FIT.");
        s.run(SCENE + "say xyzXYZ", "lay(2, 0) = 1 | told(0) = 0 | told(22) = 0 | lay(2, 200) = 1 | told(22) = 200",
                "say zz | lay(0, 0) = 1 | told(0) = 0 | CUBES(0) = 100- 000a | lay(0, 0) = 1 | CUBES(0) = 000- 100a");
        s.refused(SCENE, """
            lay(-1, 0) = UNKNOWN | lay(4, 0) = UNKNOWN | lay(MIN, 0) = UNKNOWN | lay(MAX, 0) = UNKNOWN
            lay(0, -1) = UNKNOWN | lay(0, 300) = UNKNOWN | lay(0, 20) = UNKNOWN | lay(0, 1) = UNKNOWN
            lay(3, 300) = UNKNOWN
            lay(0, MIN) = UNKNOWN | lay(0, MAX) = UNKNOWN | lay(-1, -1) = UNKNOWN | lay(3, 0) = STATE
            lay(3, 210) = STATE
            lay(0, 200) = NO | lay(0, 210) = NO | lay(0, 110) = NO | lay(2, 210) = NO
            """);
        String[] pads = {"!", "z!", "n", "s", "w", "e", "u", "v", "zn", "nz", "xyzXYZe", "000-", "y", "z".repeat(41)};
        for (String pad : pads) {
            s.refused(SCENE + "say " + pad,
                    "lay(4, 0) = UNKNOWN | lay(0, 300) = UNKNOWN | lay(3, 1) = UNKNOWN | lay(3, 0) = STATE",
                    "lay(0, 0) = NO | lay(0, 200) = NO");
        }
        s.refused(SCENE + "say z",
                "lay(0, 10) = NO | lay(0, 200) = NO | lay(1, 110) = NO | lay(1, 200) = NO | lay(3, 0) = STATE",
                "lay(2, 210) = NO");

        s.sentence("`int goal(int thing, int cell)`: Its GOAL: which it was. UNKNOWN.");
        s.run(SCENE, "goal(0, 210) = 100 | goal(0, 0) = 210 | goal(3, 210) = 0 | goal(3, 10) = 210",
                "goal(2, 200) = 0 | told(32) = 200",
                "fill(0, 0, 1) | goal(1, 0) = 0 | goal(1, 210) = 0 | told(31) = 210 | goal(1, 210) = 210");
        s.refused(SCENE, """
            goal(-1, 0) = UNKNOWN | goal(4, 0) = UNKNOWN | goal(MIN, 0) = UNKNOWN | goal(MAX, 0) = UNKNOWN
            goal(0, -1) = UNKNOWN | goal(0, 300) = UNKNOWN | goal(0, 20) = UNKNOWN | goal(0, 1) = UNKNOWN
            goal(3, MIN) = UNKNOWN | goal(3, MAX) = UNKNOWN | goal(4, 300) = UNKNOWN
            """);
    }

    private void promises13And14() {
        s.sentence("`int judge(int thing, int what)`: The ROW on the PAD JUDGED: the MOVE (what = 0), why (1);"
                + " NONE. UNKNOWN; OUTSIDE; STATE: it does not lie; NO: there is a FAULT.");
        s.run(SCENE, "judge(0, 0) = NONE | judge(0, 1) = NONE | say s | judge(0, 0) = NONE | say e",
                "judge(0, 0) = 1 | judge(0, 1) = 2",
                "told(0) = 2 | told(20) = 0 | say n | judge(0, 0) = 1 | judge(1, 0) = 0 | judge(1, 1) = 2");
        for (String pad : new String[] {"!", "n!", "000-010c", "z".repeat(41)}) {
            s.refused(SCENE + "say " + pad, """
                judge(-1, 0) = UNKNOWN | judge(4, 0) = UNKNOWN | judge(4, 2) = UNKNOWN | judge(3, 2) = OUTSIDE
                judge(2, -1) = OUTSIDE
                judge(0, 2) = OUTSIDE | judge(3, 0) = STATE | judge(2, 1) = STATE | judge(0, 0) = NO | judge(1, 1) = NO
                """);
        }
        s.refused(SCENE + "say e", """
            judge(MIN, 0) = UNKNOWN | judge(MAX, MAX) = UNKNOWN | judge(0, -1) = OUTSIDE | judge(0, 2) = OUTSIDE
            judge(1, MIN) = OUTSIDE | judge(1, MAX) = OUTSIDE | judge(2, 2) = OUTSIDE | judge(2, 0) = STATE
            judge(3, 1) = STATE
            """);

        s.sentence("`int move(int thing)`: The ROW on the PAD is done (it is empty then): the CELL where it is."
                + " UNKNOWN; STATE, NO, likewise: also a MOVE that can not be.");
        s.run(SCENE, "move(0) = 0 | say s | move(0) = 10 | told(0) = 0 | told(20) = 10 | say nzz | move(0) = 0",
                "CUBES(0) = 100- 000a",
                "say zz | move(0) = 0 | CUBES(0) = 000- 100a | say xyzXYZ | move(2) = STATE | wipe() = 6",
                "told(30) = 100");
        // what is asked after it is asked of where it is then
        s.run(SCENE, "GOES(0, 0, 0) = e | say e | move(0) = 100 | GOES(0, 0, 0) = . | say ws | move(0) = 10",
                "GOES(0, 0, 0) = ne",
                "EFFORT(0, 0, 0) = 2 ne | say n | move(0) = 0 | EFFORT(0, 0, 0) = 1 e");
        // how it was turned stays, and is turned further
        s.run("size(3, 3, 1) | say 000-100-110- | thing(0) | say z | lay(0, 0) | CUBES(0) = 100- 110- 010- | say z",
                "move(0) = 0",
                "CUBES(0) = 110- 010- 000- | say ze | move(0) = 100 | CUBES(0) = 010- 000- 100- | say Zs",
                "move(0) = 110");
        s.refused(SCENE,
                "move(-1) = UNKNOWN | move(4) = UNKNOWN | move(MIN) = UNKNOWN | move(MAX) = UNKNOWN",
                "move(2) = STATE | move(3) = STATE");
        String[] pads = {"!", "s!", "n", "w", "u", "v", "ss", "se", "sen", "sene", "y", "sz", "zs",
            "sn".repeat(20) + "s", "000-010c"};
        for (String pad : pads) {
            s.refused(SCENE + "say " + pad,
                    "move(0) = NO | move(2) = STATE | move(3) = STATE | move(4) = UNKNOWN | move(-1) = UNKNOWN");
        }
    }

    private void promises15To17() {
        String refusals = """
            (-1, 0, 0, -1) = UNKNOWN | (4, 0, 0, -1) = UNKNOWN | (MIN, 0, 0, 0) = UNKNOWN | (MAX, 16, 16, 0) = UNKNOWN
            (4, -1, 0, 0) = UNKNOWN | (-1, 0, -1, 0) = UNKNOWN
            (0, -1, 0, -1) = OUTSIDE | (0, 16, 0, -1) = OUTSIDE | (0, 0, -1, -1) = OUTSIDE | (0, 0, 16, -1) = OUTSIDE
            (1, MIN, 0, 0) = OUTSIDE | (1, MAX, 0, 0) = OUTSIDE | (1, 0, MIN, 0) = OUTSIDE | (1, 0, MAX, 0) = OUTSIDE
            (2, 16, 0, -1) = OUTSIDE | (3, 0, 16, -1) = OUTSIDE | (3, -1, 0, 99) = OUTSIDE | (0, 256, 0, -1) = OUTSIDE
            (2, 0, 0, -1) = STATE | (3, 0, 0, -1) = STATE | (2, 15, 15, 0) = STATE | (3, 15, 15, MIN) = STATE
            """;
        s.sentence("`int goes(int thing, int parts, int doors, int i)`: GOES: MOVES (i = -1), the i-th (its sign);"
                + " NONE. UNKNOWN; OUTSIDE: sets 0 to 15; STATE: it does not lie.");
        s.run(SCENE, """
            GOES(0, 0, 0) = e | GOES(0, 15, 15) = e | goes(0, 1, 0, 0) = 'e' | GOES(1, 0, 0) = w
            goal(0, 10) | GOES(0, 0, 0) = s | GOES(0, 15, 15) = s | goal(0, 0) | GOES(0, 0, 0) = .
            goal(0, 210) | goes(0, 0, 0, -1) = NONE | goes(0, 0, 0, 0) = NONE | goes(0, 0, 0, -2) = NONE
            goes(0, 1, 0, -1) = NONE | goes(0, 0, 1, -1) = NONE | GOES(0, 1, 1) = see
            """);
        // one set is not taken for another one, nor a THING, nor what is asked
        s.run("size(2, 1, 1) | say 000-100a | thing(0) | lay(0, 0) | goal(0, 100) | say 000- | thing(1)",
                "lay(1, 0)", """
            goes(0, 0, 1, -1) = NONE | GOES(0, 1, 0) = e | goes(0, 0, 1, 0) = NONE | goes(0, 2, 0, -1) = NONE
            GOES(0, 1, 1) = e
            effort(0, 0, 1, -1) = NONE | cost(-2, 0, 5) | EFFORT(0, 1, 0) = 5 e | effort(0, 0, 1, 0) = NONE
            GOES(0, 1, 0) = e
            EFFORT(0, 1, 0) = 5 e | GOES(1, 1, 0) = . | GOES(0, 1, 0) = e | EFFORT(1, 1, 0) = 0 .
            EFFORT(0, 1, 0) = 5 e
            """);
        s.refused(SCENE + "say 000-010c", refusals.replace("(", "goes("));

        s.sentence("`int effort(int thing, int parts, int doors, int i)`: EFFORT: the sum (i = -1), the i-th MOVE;"
                + " NONE. UNKNOWN; OUTSIDE, STATE, likewise.");
        s.run(SCENE, "EFFORT(0, 0, 0) = 1 e | EFFORT(0, 15, 15) = 1 e | cost(-2, 0, 7) | EFFORT(0, 0, 0) = 7 e",
                "effort(0, 0, 0, 0) = 'e'",
                "goal(0, 0) | EFFORT(0, 0, 0) = 0 . | goal(0, 210) | effort(0, 0, 0, -1) = NONE",
                "effort(0, 0, 0, 0) = NONE");
        s.refused(SCENE + "say 000-010c", refusals.replace("(", "effort("));

        s.sentence("`int room(int thing, int what)`: COMES TO (what = 0), SCRAPES (1), TURNABLE: how many CELLS"
                + " (2). UNKNOWN; OUTSIDE; STATE: it does not lie.");
        s.run("size(3, 2, 1) | say 000-100- | thing(0) | lay(0, 0) | room(0, 0) = 56 | room(0, 1) = 5",
                "room(0, 2) = 2");
        s.refused(SCENE + "say 000-010c", """
            room(-1, 0) = UNKNOWN | room(4, 0) = UNKNOWN | room(MIN, 3) = UNKNOWN | room(MAX, -1) = UNKNOWN
            room(0, -1) = OUTSIDE | room(0, 3) = OUTSIDE | room(1, MIN) = OUTSIDE | room(1, MAX) = OUTSIDE
            room(2, 3) = OUTSIDE | room(3, -1) = OUTSIDE | room(2, 0) = STATE | room(2, 1) = STATE | room(2, 2) = STATE
            room(3, 0) = STATE | room(3, 1) = STATE | room(3, 2) = STATE
            """);
    }
}
