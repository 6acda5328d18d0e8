/** The sentences about LEAST OFF, THE BAR, ORDER and CAME, promises 18 to 24, and those about calls and refusals. */
final class OffSentences {
    private static final String SCENE = WaySentences.SCENE;

    private final Sentences s;

    OffSentences(Sentences s) {
        this.s = s;
    }

    void all() {
        leastOff();
        notNeeded();
        leastOfSeveral();
        bar();
        order();
        came();
        constants();
        promises18To21();
        images();
        told();
        refusals();
        calls();
    }

    private void leastOff() {
        s.sentence("LEAST OFF: the least cost (of PARTS, of DOORS, 0 to 9 each; 1 at first) of sets that are off by"
                + " which it GOES: that cost, PARTS, DOORS, as bits;");
        s.run("size(2, 1, 1) | say 000- | thing(0) | lay(0, 0) | LEAST(0) = 0 0 0 | goal(0, 100) | LEAST(0) = 0 0 0",
                "fill(100, 100, 1) | LEAST(0) = NONE | fill(0, 0, 1) | fill(100, 100, 0) | LEAST(0) = NONE",
                "goal(0, 0) | LEAST(0) = NONE | fill(0, 0, 4) | LEAST(0) = 1 0 4");
        for (int one = 0; one < 4; one++) {
            int bit = 1 << one;
            s.run("size(2, 1, 1) | say 000-100" + (char) ('a' + one) + " | thing(0) | lay(0, 0) | LEAST(0) = 0 0 0",
                    "goal(0, 100)",
                    "LEAST(0) = 1 " + bit + " 0 | cost(0, " + one + ", 9) | LEAST(0) = 9 " + bit + " 0",
                    "cost(0, " + one + ", 0) | LEAST(0) = 0 " + bit + " 0 | cost(0, " + (one + 1) % 4 + ", 9)",
                    "LEAST(0) = 0 " + bit + " 0");
            s.run("size(2, 1, 1) | say 000- | thing(0) | lay(0, 0) | goal(0, 100) | fill(100, 100, " + (2 + one) + ")",
                    "LEAST(0) = 1 0 " + bit + " | cost(-1, " + one + ", 9) | LEAST(0) = 9 0 " + bit,
                    "cost(-1, " + one + ", 0) | LEAST(0) = 0 0 " + bit + " | cost(-1, " + (one + 1) % 4 + ", 9)",
                    "LEAST(0) = 0 0 " + bit);
        }
        // where it lies each PART is in a wall and each CUBE of the body in another DOOR
        StringBuilder calls = new StringBuilder("size(4, 2, 1) | say 000-100-200-300-010a110b210c310d | thing(0)");
        calls.append(" | lay(0, 0) | LEAST(0) = 0 0 0 | fill(10, 310, 1) | LEAST(0) = 4 15 0");
        for (int door = 0; door < 4; door++) {
            calls.append(" | fill(" + 100 * door + ", " + 100 * door + ", " + (door + 2) + ")");
        }
        calls.append(" | LEAST(0) = 8 15 15");
        for (int cost : new int[] {9, 0, 2}) {
            for (int i = 0; i < 4; i++) {
                calls.append(" | cost(0, " + i + ", " + cost + ") | cost(-1, " + i + ", " + cost + ")");
            }
            calls.append(" | LEAST(0) = " + 8 * cost + " 15 15");
        }
        s.run(calls + " | cost(0, 3, 9) | LEAST(0) = 23 15 15 | fill(0, 0, 1) | LEAST(0) = NONE");
    }

    /** What is of use where it is not needed stays on: it is asked of each one beside each other one. */
    private void notNeeded() {
        for (int one = 0; one < 4; one++) {
            for (int other = 0; other < 4; other++) {
                if (one == other) continue;
                s.about(one + " is needed and " + other + " is not");
                s.run("size(3, 2, 1) | say 000- | thing(0) | lay(0, 0) | goal(0, 200) | fill(110, 110, 1)",
                        "fill(100, 100, " + (2 + one) + ") | fill(210, 210, " + (2 + other) + ")",
                        "LEAST(0) = 1 0 " + (1 << one),
                        "CAME(0) = 8 " + (1 << one));
                s.run("size(2, 1, 2) | say 000-100" + (char) ('a' + one) + "001" + (char) ('a' + other),
                        "thing(0) | lay(0, 0)",
                        "goal(0, 100) | cost(0, " + other + ", 9) | LEAST(0) = 1 " + (1 << one) + " 0");
            }
        }
        s.about("a PART is needed and DOOR 3 is not");
        s.run("size(3, 2, 1) | say 000-100a | thing(0) | lay(0, 0) | goal(0, 200) | fill(110, 110, 1)",
                "fill(210, 210, 5)",
                "LEAST(0) = 1 1 0 | cost(-1, 3, 9) | LEAST(0) = 1 1 0 | cost(0, 0, 9) | LEAST(0) = 9 1 0");
    }

    private void leastOfSeveral() {
        s.sentence("of several sets the least by 16 times PARTS and DOORS.");
        // PART 0 or DOOR 3: 16 or 8
        s.run("size(2, 2, 1) | say 000-010a | thing(0) | lay(0, 0) | goal(0, 100) | fill(110, 110, 5)",
                "LEAST(0) = 1 0 8 | cost(-1, 3, 2) | LEAST(0) = 1 1 0 | cost(0, 0, 2) | LEAST(0) = 2 0 8",
                "cost(0, 0, 0) | LEAST(0) = 0 1 0 | cost(-1, 3, 0) | LEAST(0) = 0 0 8");
        // DOOR 1 or DOOR 2, and what costs nothing, but is not needed, stays
        s.run("size(3, 2, 1) | say 000- | thing(0) | lay(0, 0) | goal(0, 200) | fill(100, 100, 4) | fill(110, 110, 3)",
                "LEAST(0) = 1 0 2 | cost(-1, 1, 2) | LEAST(0) = 1 0 4 | cost(-1, 1, 0) | cost(-1, 2, 0)",
                "LEAST(0) = 0 0 2",
                "cost(-1, 0, 0) | cost(0, 0, 0) | LEAST(0) = 0 0 2 | fill(110, 110, 1) | LEAST(0) = 0 0 4");
        // DOORS 0 and 1 (3) or DOOR 2 (4); DOORS 2 and 3 (12) or DOOR 1 (2)
        s.run("size(4, 2, 1) | say 000- | thing(0) | lay(0, 0) | goal(0, 300) | fill(100, 100, 2)",
                "fill(200, 200, 3) | fill(110, 210, 4)",
                "LEAST(0) = 1 0 4 | cost(-1, 2, 2) | LEAST(0) = 2 0 3 | cost(-1, 1, 2) | LEAST(0) = 2 0 4",
                "fill(100, 100, 4) | fill(200, 200, 5) | fill(110, 210, 3) | LEAST(0) = 2 0 2 | cost(-1, 2, 0)",
                "LEAST(0) = 1 0 12",
                "cost(-1, 3, 2) | LEAST(0) = 2 0 2");
        // PART 0 or PART 1: it is one CUBE longer than the gap that it goes through, at either end
        s.run("size(2, 4, 1) | say 010-000a020b | thing(0) | lay(0, 0) | goal(0, 100) | fill(100, 100, 1)",
                "fill(130, 130, 1)",
                "LEAST(0) = 1 1 0 | cost(0, 0, 2) | LEAST(0) = 1 2 0 | cost(0, 1, 2) | LEAST(0) = 2 1 0");
        // PART 0 and PART 1 (3) or PART 2 (4)
        s.run("size(2, 4, 2) | say 010-000a001b020c | thing(0) | lay(0, 0) | goal(0, 100) | fill(100, 101, 1)",
                "fill(130, 131, 1)",
                "LEAST(0) = 1 4 0 | cost(0, 2, 2) | LEAST(0) = 2 3 0 | cost(0, 0, 2) | LEAST(0) = 2 4 0");
    }

    private void bar() {
        s.sentence("THE BAR: for THING 0 that lies: the longest row of CUBES along x, y or z (1 to 6), laid along"
                + " the first of x, y, z by which it FITS from its CELL, that GOES to its GOAL (DOORS of a set"
                + " off).");
        for (int n = 1; n <= 6; n++) {
            s.run("size(" + n + ", 1, 1) | say 000- | thing(0) | lay(0, 0) | bar(0) = " + n,
                    "size(1, " + n + ", 1) | lay(0, 0) | bar(0) = " + n,
                    "size(6, 6, 4) | lay(0, " + (600 - 100 * n) + ") | goal(0, " + (600 - 100 * n) + ") | bar(0) = 6",
                    "fill(0, 553, 2) | fill(" + (600 - 100 * n) + ", 500, 0) | bar(0) = " + n + " | bar(1) = 6",
                    "bar(14) = " + n);
            if (n <= 4) s.run("size(1, 1, " + n + ") | say 000- | thing(0) | lay(0, 0) | bar(0) = " + n);
        }
        s.run("size(6, 6, 4) | say 000- | thing(0) | lay(0, 0) | bar(0) = 6 | goal(0, 553) | bar(0) = 1",
                "goal(0, 552) | bar(0) = 2",
                "goal(0, 543) | bar(0) = 2 | goal(0, 453) | bar(0) = 2 | goal(0, 443) | bar(0) = 2 | goal(0, 50)",
                "bar(0) = 6",
                "fill(50, 50, 1) | bar(0) = NONE | fill(50, 50, 0) | fill(0, 0, 1) | bar(0) = NONE | bar(15) = NONE");
        // how THING 0 is, and how it lies, does not matter: its CELL alone; others than THING 0 are not asked
        s.run("size(3, 3, 1) | say 100-010a | thing(0) | lay(0, 0) | goal(0, 0) | bar(0) = 3 | fill(0, 0, 1)",
                "bar(0) = NONE");
        s.run("size(2, 1, 1) | say 000- | thing(1) | lay(1, 0) | bar(0) = STATE | say 000-100a | thing(0)",
                "bar(0) = STATE",
                "lay(0, 0) | bar(0) = 2 | goal(0, 100) | bar(0) = 1 | fill(100, 100, 3) | bar(0) = NONE | bar(2) = 1");
        // laid along y, where x does not do, and along z, where neither does
        s.run("size(2, 2, 2) | say 000- | thing(0) | lay(0, 0) | goal(0, 1) | bar(0) = 2 | fill(100, 101, 1)",
                "bar(0) = 2",
                "fill(10, 11, 5) | bar(0) = 1 | bar(8) = 2 | goal(0, 0) | bar(0) = 2 | fill(1, 1, 1) | bar(0) = 1");
        // it turns in a corner, if there is room beside it; a row of three has none
        s.run("size(3, 3, 1) | fill(10, 120, 1) | fill(110, 110, 0) | say 000- | thing(0) | lay(0, 0)",
                "goal(0, 210) | bar(0) = 2",
                "fill(110, 110, 1) | bar(0) = 1 | fill(110, 110, 2) | bar(1) = 2 | bar(0) = 1");
    }

    private void order() {
        s.sentence("ORDER of THINGS of a set (bits) that lie: one after another goes to its GOAL, and is gone then;"
                + " those of the set that have not gone yet are as walls where they lie, others are not there. The"
                + " first order by numbers.");
        String row = "size(6, 1, 1)";
        for (int thing = 0; thing < 4; thing++) row += " | say 000- | thing(" + thing + ")";
        String[] orders = {"0 1 2 3", "3 2 1 0", "1 3 0 2", "2 0 3 1", "0 3 1 2", "3 1 2 0"};
        for (String order : orders) {
            StringBuilder calls = new StringBuilder(row);
            // the first to go lies nearest to where all go
            for (int i = 0; i < 4; i++) calls.append(" | lay(" + order.charAt(2 * i) + ", " + (400 - 100 * i) + ")");
            for (int i = 0; i < 4; i++) calls.append(" | goal(" + i + ", 500)");
            s.run(calls.toString(), "ORDER(15) = " + order);
        }
        for (int set = 1; set < 16; set++) {
            StringBuilder free = new StringBuilder(row), order = new StringBuilder(), nearest = new StringBuilder();
            for (int i = 0; i < 4; i++) {
                free.append(" | lay(" + i + ", " + 100 * i + ") | goal(" + i + ", " + 100 * i + ")");
                if ((set >> i & 1) == 1) {
                    order.append(" " + i);
                    nearest.insert(0, " " + i);
                }
            }
            s.run(free.toString(), "ORDER(" + set + ") =" + order, "goal(0, 500) | goal(1, 500) | goal(2, 500)",
                    "goal(3, 500)",
                    "ORDER(" + set + ") =" + nearest);
        }
        // each in the way of the other; one that is not of the set is in nobody's way; two in one CELL
        s.run("size(4, 1, 1) | say 000- | thing(0) | say 000- | thing(1) | lay(0, 0) | lay(1, 300) | goal(0, 300)",
                "goal(1, 0)",
                "ORDER(3) = NONE | ORDER(1) = 0 | ORDER(2) = 1 | goal(0, 200) | ORDER(3) = 0 1 | goal(1, 300)",
                "ORDER(3) = 0 1",
                "goal(0, 300) | ORDER(3) = 1 0 | lay(1, 0) | goal(0, 0) | goal(1, 0) | ORDER(3) = NONE",
                "ORDER(1) = 0 | ORDER(2) = 1");
        // nothing is off, of those that wait, too; where it lies it must FIT
        s.run("size(4, 1, 1) | say 000- | thing(0) | say 000-100a | thing(1) | lay(0, 0) | lay(1, 200)",
                "goal(0, 300) | goal(1, 200)",
                "ORDER(3) = 1 0 | goal(1, 100) | ORDER(3) = 1 0 | goal(1, 300) | ORDER(3) = NONE | ORDER(2) = NONE",
                "goal(1, 100) | fill(300, 300, 5) | ORDER(3) = NONE | ORDER(2) = NONE | ORDER(1) = NONE",
                "goal(0, 100) | ORDER(1) = 0");
        // one goes, and the other one never: there is no order, so there is no first one
        s.run("size(3, 1, 1) | say 000- | thing(0) | say 000- | thing(1) | lay(0, 0) | lay(1, 200) | goal(0, 100)",
                "goal(1, 100)",
                "fill(200, 200, 1) | ORDER(3) = NONE | ORDER(1) = 0 | ORDER(2) = NONE | fill(200, 200, 0)",
                "ORDER(3) = 0 1");
        // those that are as walls here are not there for what is asked before and behind
        s.run("size(3, 1, 1) | say 000- | thing(0) | say 000- | thing(1) | lay(0, 0) | lay(1, 100) | goal(0, 200)",
                "goal(1, 200)", """
            room(0, 0) = 72 | ORDER(3) = 1 0 | room(0, 0) = 72 | room(1, 0) = 72 | ORDER(3) = 1 0 | room(1, 0) = 72
            ORDER(3) = 1 0
            goal(1, 0) | room(0, 0) = 72 | ORDER(3) = NONE | room(0, 0) = 72 | ORDER(3) = NONE | room(1, 0) = 72
            LEAST(1) = 0 0 0
            ORDER(3) = NONE | JUDGED(1) w = NONE | GOES(1, 0, 0) = w | bar(0) = 1
            """);
        // it stands in the way as it is turned
        s.run("size(2, 2, 1) | say 000- | thing(0) | say 000-100- | thing(1) | lay(0, 10) | goal(0, 110) | goal(1, 0)",
                "lay(1, 0) | ORDER(3) = 0 1 | fill(10, 10, 0) | say z | lay(1, 100) | goal(1, 100) | ORDER(3) = 1 0");
    }

    private void came() {
        s.sentence("CAME: sets of DOORS (bits 0 to 15) that are off by which a THING GOES (nothing else off): how"
                + " many of the 16; those DOORS that are off in each of them, as bits.");
        s.run("size(2, 1, 1) | say 000- | thing(0) | lay(0, 0) | CAME(0) = 16 0 | goal(0, 100) | CAME(0) = 16 0",
                "fill(100, 100, 1) | CAME(0) = 0 NONE");
        for (int set = 0; set < 16; set++) {
            StringBuilder row = new StringBuilder("size(6, 1, 1) | say 000- | thing(0) | lay(0, 0) | goal(0, 500)");
            for (int door = 0; door < 4; door++) {
                int cell = 100 * (1 + door);
                if ((set >> door & 1) == 1) row.append(" | fill(" + cell + ", " + cell + ", " + (2 + door) + ")");
            }
            s.run(row.toString(), "CAME(0) = " + (16 >> Integer.bitCount(set)) + " " + set);
        }
        // one of two is enough: none is in each; and where it lies a DOOR must be off
        s.run("size(3, 2, 1) | say 000- | thing(0) | lay(0, 0) | goal(0, 200) | fill(100, 100, 2)",
                "fill(110, 110, 5) | CAME(0) = 12 0",
                "fill(0, 0, 3) | CAME(0) = 6 2 | fill(200, 200, 4) | CAME(0) = 3 6 | fill(10, 10, 1) | CAME(0) = 2 7",
                "fill(0, 0, 1) | CAME(0) = 0 NONE");
        // PARTS are on
        s.run("size(2, 1, 1) | say 000-100a | thing(0) | lay(0, 0) | CAME(0) = 16 0 | goal(0, 100) | CAME(0) = 0 NONE",
                "goal(0, 0) | fill(100, 100, 5) | CAME(0) = 8 8");
    }

    private void constants() {
        s.sentence("The constants: `UNKNOWN = -1, OUTSIDE = -2, STATE = -3, FULL = -4, NO = -5, NONE = -6`: What"
                + " refused calls answer; NONE: there is none.");
        int[] constants = {SofaStair.UNKNOWN, SofaStair.OUTSIDE, SofaStair.STATE, SofaStair.FULL, SofaStair.NO,
            SofaStair.NONE};
        for (int i = 0; i < constants.length; i++) s.due.is("constant " + i, constants[i], -1 - i);
    }

    private void promises18To21() {
        String oneThing = """
            (-1, 0) = UNKNOWN | (4, 0) = UNKNOWN | (MIN, 0) = UNKNOWN | (MAX, 0) = UNKNOWN | (4, 9) = UNKNOWN
            (-1, -1) = UNKNOWN
            (0, -1) = OUTSIDE | (0, 3) = OUTSIDE | (1, MIN) = OUTSIDE | (1, MAX) = OUTSIDE | (2, 3) = OUTSIDE
            (3, -1) = OUTSIDE
            (2, 0) = STATE | (2, 1) = STATE | (3, 0) = STATE | (3, 1) = STATE
            """;
        s.sentence("`int least(int thing, int what)`: LEAST OFF: the cost (what = 0), PARTS (1), DOORS (2); NONE:"
                + " not even then. UNKNOWN; OUTSIDE; STATE: it does not lie.");
        s.run(SCENE, "LEAST(0) = 0 0 0 | goal(0, 200) | LEAST(0) = 3 0 1 | goal(0, 210) | LEAST(0) = 8 1 1",
                "fill(0, 0, 1) | LEAST(0) = NONE");
        s.refused(SCENE + "say 000-010c", oneThing.replace("(", "least("), "least(2, 2) = STATE | least(3, 2) = STATE");

        s.sentence("`int bar(int doors)`: THE BAR's length; NONE: none goes. OUTSIDE: the set; STATE: THING 0 does"
                + " not lie.");
        s.run(SCENE, "bar(0) = 2 | goal(0, 210) | bar(0) = NONE | bar(14) = NONE | bar(1) = 1 | bar(15) = 1");
        s.refused(SCENE + "say 000-010c",
                "bar(-1) = OUTSIDE | bar(16) = OUTSIDE | bar(MIN) = OUTSIDE | bar(MAX) = OUTSIDE",
                "bar(256) = OUTSIDE");
        s.refused("size(2, 1, 1) | say 000- | thing(1) | lay(1, 0)",
                "bar(0) = STATE | bar(15) = STATE | bar(-1) = OUTSIDE | bar(16) = OUTSIDE");
        s.refused("size(2, 1, 1) | say 000- | thing(0) | lay(0, 0) | size(2, 1, 1)",
                "bar(0) = STATE | bar(15) = STATE | bar(16) = OUTSIDE");

        s.sentence("`int order(int set, int i)`: ORDER: the i-th THING, from 0 on; NONE: there are not so many (i"
                + " below 0, too), or there is no order. OUTSIDE: the set 1 to 15; STATE: one of them does not"
                + " lie.");
        s.run(SCENE, "ORDER(1) = 0 | ORDER(2) = 1 | ORDER(3) = NONE | lay(0, 0) | goal(0, 0) | goal(1, 110)",
                "ORDER(3) = NONE",
                "fill(210, 210, 0) | ORDER(2) = 1 | ORDER(3) = NONE | say z | lay(0, 0) | ORDER(3) = 0 1");
        s.refused(SCENE + "say 000-010c", """
            order(0, 0) = OUTSIDE | order(-1, 0) = OUTSIDE | order(16, 0) = OUTSIDE | order(MIN, 0) = OUTSIDE
            order(MAX, 0) = OUTSIDE
            order(0, -1) = OUTSIDE | order(4, 0) = STATE | order(8, 0) = STATE | order(5, 0) = STATE
            order(11, 1) = STATE
            order(15, 0) = STATE | order(4, -1) = STATE | order(12, 9) = STATE | order(7, MIN) = STATE
            order(16, -1) = OUTSIDE
            """);

        s.sentence("`int came(int thing, int what)`: CAME: how many sets (what = 0), DOORS in each (1; NONE: no"
                + " sets). UNKNOWN; OUTSIDE; STATE: it does not lie.");
        s.run(SCENE, "CAME(0) = 16 0 | goal(0, 210) | CAME(0) = 0 NONE | goal(1, 110) | CAME(1) = 8 1");
        s.refused(SCENE + "say 000-010c", oneThing.replace("(", "came("),
                "came(0, 2) = OUTSIDE | came(2, 2) = OUTSIDE | came(4, 2) = UNKNOWN");
    }

    private void images() {
        s.sentence("`int image(int n)`: All but the PAD is kept in an IMAGE (0, 1): 1. OUTSIDE.");
        s.run("say zz | image(0) = 1 | image(1) = 1 | wipe() = 2 | say x | restore(0) = 1 | told(0) = 1",
                "restore(1) = 1 | wipe() = 1");
        s.refused(SCENE + "say 000-010c",
                "image(-1) = OUTSIDE | image(2) = OUTSIDE | image(MIN) = OUTSIDE | image(MAX) = OUTSIDE");
        // one does not touch the other, and the later one of the same number stays
        s.run("size(1, 1, 1) | image(0) = 1 | size(2, 2, 2) | image(1) = 1 | size(3, 3, 3) | restore(0) = 1",
                "told(1) = 1",
                "restore(1) = 1 | told(1) = 2 | image(0) = 1 | size(3, 3, 3) | restore(0) = 1 | told(1) = 2");

        s.sentence("`int restore(int n)`: It is as it was when it was kept: 1. OUTSIDE; STATE: it was not.");
        String other = """
            size(2, 2, 3) | fill(0, 112, 3) | fill(0, 0, 0) | say 000-001d | thing(0) | say 000-001- | thing(1)
            say 000- | thing(3)
            fill(0, 112, 0) | say xz | lay(0, 0) | say Y | lay(1, 1) | lay(3, 0) | goal(0, 1) | goal(1, 2)
            goal(2, 10) | goal(3, 11) | cost(0, 0, 9) | cost(1, 1, 8)
            cost(2, 2, 7) | cost(3, 3, 6) | cost(-1, 0, 5) | cost(-2, 0, 4) | cost(-2, 1, 0) | cost(-2, 2, 3)
            cost(-2, 3, 2)
            """;
        s.same(SCENE + "image(1) = 1\n" + other + "restore(1) = 1", SCENE + "image(1) = 1");
        s.same(SCENE + "image(1) = 1 | image(0) = 1\n" + other + "restore(0) = 1 | size(1, 1, 1) | restore(1) = 1",
                SCENE + "image(0) = 1 | image(1) = 1");
        s.run("size(2, 1, 1) | fill(100, 100, 2) | say 000- | thing(0) | say z | lay(0, 0) | goal(0, 100) | image(0)",
                "goes(0, 0, 0, -1) = NONE | LEAST(0) = 1 0 1 | fill(100, 100, 0) | GOES(0, 0, 0) = e",
                "LEAST(0) = 0 0 0 | CAME(0) = 16 0",
                "restore(0) = 1 | goes(0, 0, 0, -1) = NONE | LEAST(0) = 1 0 1 | CAME(0) = 8 1 | bar(0) = NONE",
                "bar(1) = 1 | ORDER(1) = NONE",
                "size(1, 1, 1) | told(20) = NONE | restore(0) = 1 | told(20) = 0 | cell(100) = 2 | told(30) = 100",
                "restore(0) = 1");
        s.run("say zz | image(0) | wipe() | restore(0) = 1 | told(0) = 0 | say z | restore(0) = 1 | told(0) = 1");
        s.refused(SCENE + "say 000-010c",
                "restore(1) = STATE | restore(-1) = OUTSIDE | restore(2) = OUTSIDE | restore(MIN) = OUTSIDE",
                "restore(MAX) = OUTSIDE");
        s.refused("say 000-010c",
                "restore(0) = STATE | restore(1) = STATE | restore(-1) = OUTSIDE | restore(2) = OUTSIDE");
    }

    private void told() {
        s.sentence("`int told(int what)`: 0 signs, 1 to 3 X, Y, Z, 10 to 13 CUBES of THINGS (0: not told), 20 to 23"
                + " the CELL where they lie (NONE), 30 to 33 GOALS. OUTSIDE.");
        s.run("size(5, 4, 3) | say 000-100- | thing(1) | say 000- | thing(3) | say z | lay(1, 421) | lay(3, 132)",
                "goal(0, 432) | goal(3, 12) | say abc", """
            told(0) = 3 | told(1) = 5 | told(2) = 4 | told(3) = 3 | told(10) = 0 | told(11) = 2 | told(12) = 0
            told(13) = 1
            told(20) = NONE | told(21) = 421 | told(22) = NONE | told(23) = 132
            told(30) = 432 | told(31) = 0 | told(32) = 0 | told(33) = 12
            """);
        s.refused(SCENE + "say 000-010c", """
            told(-1) = OUTSIDE | told(4) = OUTSIDE | told(9) = OUTSIDE | told(14) = OUTSIDE | told(19) = OUTSIDE
            told(24) = OUTSIDE
            told(29) = OUTSIDE | told(34) = OUTSIDE | told(40) = OUTSIDE | told(43) = OUTSIDE | told(110) = OUTSIDE
            told(-10) = OUTSIDE
            told(MIN) = OUTSIDE | told(MAX) = OUTSIDE | told(-2) = OUTSIDE | told(-20) = OUTSIDE | told(130) = OUTSIDE
            """);
        for (int from = -600; from < 1200; from += 400) {
            StringBuilder all = new StringBuilder("told(0) = 0");
            for (int what = from; what < from + 400; what++) {
                boolean asked = what >= 0 && what < 4 || what >= 10 && what < 40 && what % 10 < 4;
                if (!asked) all.append(" | told(" + what + ") = OUTSIDE");
            }
            s.run(all.toString());
        }
    }

    /** Where two refusals hold; which call is refused by what is tested with each promise. */
    private void refusals() {
        s.sentence("Calls that are refused answer, the first of these that fits: UNKNOWN -1 (there is no such"
                + " THING, CELL, CUBE), OUTSIDE -2 (another number is not as told), STATE -3 (as told), NO -5 (as"
                + " told), FULL -4. They change nothing.");
        String fault = SCENE + "say !" + "z".repeat(59);
        s.refused(fault, """
            fill(300, 0, 6) = UNKNOWN | fill(0, 300, -1) = UNKNOWN | say(32) = OUTSIDE | say(127) = OUTSIDE
            say(48) = FULL
            thing(4) = UNKNOWN | thing(0) = NO | cube(4, 0, 4) = UNKNOWN | cube(0, 2, 4) = UNKNOWN
            cube(0, 1, 4) = OUTSIDE
            cost(4, 4, 10) = UNKNOWN | cost(3, 4, 10) = OUTSIDE | lay(4, 0) = UNKNOWN | lay(3, 300) = UNKNOWN
            lay(3, 0) = STATE
            lay(0, 0) = NO | goal(4, 300) = UNKNOWN | judge(4, 2) = UNKNOWN | judge(3, 2) = OUTSIDE
            judge(3, 1) = STATE
            judge(0, 1) = NO | move(4) = UNKNOWN | move(3) = STATE | move(0) = NO
            """);
        s.refused(fault, """
            goes(4, 16, 0, 0) = UNKNOWN | goes(3, 16, 0, 0) = OUTSIDE | goes(3, 0, 16, 0) = OUTSIDE
            goes(3, 0, 0, 0) = STATE
            effort(4, 16, 0, 0) = UNKNOWN | effort(3, 16, 0, 0) = OUTSIDE | effort(3, 0, 16, 0) = OUTSIDE
            effort(3, 0, 0, 0) = STATE
            room(4, 3) = UNKNOWN | room(3, 3) = OUTSIDE | room(3, 2) = STATE | least(4, 3) = UNKNOWN
            least(3, 3) = OUTSIDE
            least(3, 2) = STATE | order(24, 0) = OUTSIDE | order(8, 9) = STATE | came(4, 2) = UNKNOWN
            came(3, 2) = OUTSIDE
            came(3, 1) = STATE | restore(2) = OUTSIDE | restore(1) = STATE
            """);
    }

    private void calls() {
        s.sentence("An object is used for at most 512 calls after it has been made; what later calls answer is free.");
        StringBuilder says = new StringBuilder();
        for (int i = 1; i <= 60; i++) says.append("say(48) = " + i + "\n");
        s.run(says.toString(), "say(48) = FULL\n".repeat(450), "wipe() = 60 | told(0) = 0");
        // 8 + 63 * 8 = 512 calls, of which the last are answered as the first
        String set = "size(3, 2, 2) = 12 | say(48) = 1 | say(48) = 2 | say(48) = 3 | say(45) = 4 | thing(0) = 1\n"
                + "lay(0, 0) = 1 | goal(0, 211) = 0\n";
        String asked = "goes(0, 0, 0, -1) = 4 | effort(0, 0, 0, 3) = 'u' | least(0, 0) = 0 | came(0, 0) = 16\n";
        String changed = "fill(100, 101, 1) = 2 | fill(110, 111, 1) = 2 | goes(0, 0, 0, 0) = NONE\n"
                + "fill(100, 111, 0) = 4\n";
        s.run(set, (asked + changed).repeat(63));
    }
}
