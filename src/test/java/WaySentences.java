/** The sentences about ways, things, rows, THE FAULT, turns and stands, and promises 1 to 10. */
final class WaySentences {
    /** Ten CUBES, the most that a THING has. */
    static final String TEN = "000-001-002-003-010-011-012-013-020-021-";
    static final String FORTY = "nsweuvxyzXnsweuvxyzXnsweuvxyzXnsweuvxyzX";

    /** Two that lie, one that was told, one that was not; an IMAGE; costs. The PAD is empty. */
    static final String SCENE = """
        size(3, 2, 1) | say 000- | thing(0) | lay(0, 110) | cost(-1, 2, 4) | image(0)
        say 000-100a | thing(0) | lay(0, 0) | goal(0, 100)
        say 000-010b | thing(1) | say z | lay(1, 100)
        say 000- | thing(2) | fill(210, 210, 2) | cost(0, 0, 5) | cost(-1, 0, 3) | cost(-2, 1, 2)
        """;

    private final Sentences s;

    WaySentences(Sentences s) {
        this.s = s;
    }

    void all() {
        cells();
        cellsAsTold();
        kinds();
        nothingBeyond();
        things();
        signsOfThings();
        rows();
        theFault();
        turns();
        stands();
        promises1To4();
        promises5To7();
        promises8To10();
    }

    private void cells() {
        s.sentence("CELLS x, y, z: 0 to X, Y, Z less 1 (1 to 6, 1 to 6, 1 to 4; 6, 6, 2 at first)");
        s.run("""
            told(1) = 6 | told(2) = 6 | told(3) = 2
            cell(0) = 0 | cell(551) = 0 | cell(552) = UNKNOWN | cell(560) = UNKNOWN | cell(600) = UNKNOWN
            size(1, 1, 1) = 1 | told(1) = 1 | told(2) = 1 | told(3) = 1
            size(6, 6, 4) = 144 | told(1) = 6 | told(2) = 6 | told(3) = 4
            size(0, 5, 3) = OUTSIDE | size(5, 0, 3) = OUTSIDE | size(5, 5, 0) = OUTSIDE
            size(7, 5, 3) = OUTSIDE | size(5, 7, 3) = OUTSIDE | size(5, 5, 5) = OUTSIDE
            told(1) = 6 | told(2) = 6 | told(3) = 4
            """);
        for (int x = 1; x <= 6; x++) {
            for (int y = 1; y <= 6; y++) {
                for (int z = 1; z <= 4; z++) everyCorner(x, y, z);
            }
        }
    }

    private void everyCorner(int x, int y, int z) {
        s.about("size " + x + ", " + y + ", " + z);
        int last = 100 * (x - 1) + 10 * (y - 1) + z - 1;
        s.run("size(" + x + ", " + y + ", " + z + ") = " + x * y * z,
                "told(1) = " + x + " | told(2) = " + y + " | told(3) = " + z,
                "cell(0) = 0 | cell(" + last + ") = 0 | cell(-1) = UNKNOWN",
                "cell(" + (last + 1) + ") = UNKNOWN | cell(" + z + ") = UNKNOWN",
                "cell(" + (last + 10) + ") = UNKNOWN | cell(" + 10 * y + ") = UNKNOWN",
                "cell(" + (last + 100) + ") = UNKNOWN | cell(" + 100 * x + ") = UNKNOWN");
    }

    private void cellsAsTold() {
        s.sentence("a CELL is told as 100 x and 10 y and z");
        int[][] sizes = {{6, 6, 4}, {1, 1, 1}, {3, 2, 2}, {2, 6, 1}, {6, 1, 4}};
        for (int[] size : sizes) {
            for (int from = -1100; from <= 1100; from += 200) sweep(size, from, from + 200);
        }
        s.run("cell(MIN) = UNKNOWN | cell(MAX) = UNKNOWN | cell(-100) = UNKNOWN | cell(-10) = UNKNOWN",
                "cell(1000) = UNKNOWN | cell(2147483600) = UNKNOWN | cell(-2147483600) = UNKNOWN");
        s.about("each is another one");
        StringBuilder calls = new StringBuilder("size(6, 6, 4) = 144");
        for (int way = 0; way < 2; way++) {
            for (int i = 0; i < 144; i++) {
                int cell = 100 * (i / 24) + 10 * (i / 4 % 6) + i % 4, kind = i * 7 / 3 % 6;
                calls.append(way == 0 ? " | fill(" + cell + ", " + cell + ", " + kind + ") = 1"
                        : " | cell(" + cell + ") = " + kind);
            }
        }
        s.run(calls.toString());
    }

    private void sweep(int[] size, int from, int to) {
        s.about("size " + size[0] + ", " + size[1] + ", " + size[2]);
        StringBuilder calls = new StringBuilder();
        calls.append("size(" + size[0] + ", " + size[1] + ", " + size[2] + ")");
        for (int n = from; n < to; n++) {
            boolean there = n >= 0 && n / 100 < size[0] && n / 10 % 10 < size[1] && n % 10 < size[2];
            calls.append(" | cell(" + n + ") = " + (there ? "0" : "UNKNOWN"));
        }
        s.run(calls.toString());
    }

    private void kinds() {
        s.sentence("Each is of a KIND: 0 free (all at first), 1 wall, 2 to 5: DOORS 0 to 3 (as walls, but where"
                + " that DOOR is off).");
        s.run("""
            size(6, 1, 1)
            fill(0, 0, 0) = 1 | fill(100, 100, 1) = 1 | fill(200, 200, 2) = 1
            fill(300, 300, 3) = 1 | fill(400, 400, 4) = 1 | fill(500, 500, 5) = 1
            fill(0, 0, -1) = OUTSIDE | fill(0, 0, 6) = OUTSIDE
            cell(0) = 0 | cell(100) = 1 | cell(200) = 2 | cell(300) = 3 | cell(400) = 4 | cell(500) = 5
            """);
        for (int kind = 0; kind <= 5; kind++) {
            StringBuilder calls = new StringBuilder("size(3, 1, 1) | say 000- | thing(0) | lay(0, 0) | goal(0, 200)");
            calls.append(" | fill(100, 100, " + kind + ")");
            for (int doors = 0; doors < 16; doors++) {
                boolean goes = kind == 0 || kind > 1 && (doors >> kind - 2 & 1) == 1;
                calls.append(" | goes(0, 15, " + doors + ", -1) = " + (goes ? "2" : "NONE"));
            }
            // nothing is off, where a THING is laid or moved
            calls.append(" | JUDGED(0) e = " + (kind == 0 ? "NONE" : "0 2"));
            calls.append(" | lay(0, 100) = " + (kind == 0 ? "1" : "NO"));
            s.about("KIND " + kind);
            s.run(calls.toString());
        }
    }

    private void nothingBeyond() {
        s.sentence("Nothing goes beyond CELLS.");
        int[][] sizes = {{6, 6, 4}, {6, 6, 2}, {3, 2, 2}, {1, 1, 1}};
        for (int[] size : sizes) {
            for (int x = 0; x < size[0]; x++) {
                for (int y = 0; y < size[1]; y++) {
                    for (int z = 0; z < size[2]; z++) walledIn(size, x, y, z);
                }
            }
        }
        s.about("CUBES far from the least corner");
        s.run("""
            size(4, 4, 4) | say 000-300-030-003- | thing(0) | lay(0, 0) = 1 | room(0, 0) = 24
            lay(0, 100) = NO | lay(0, 10) = NO | lay(0, 1) = NO | lay(0, 333) = NO | lay(0, 0) = 1
            JUDGED(0) n = 0 1 | JUDGED(0) s = 0 1 | JUDGED(0) w = 0 1 | JUDGED(0) e = 0 1
            JUDGED(0) u = 0 1 | JUDGED(0) v = 0 1
            size(3, 4, 4) | lay(0, 0) = NO | size(4, 3, 4) | lay(0, 0) = NO | size(4, 4, 3) | lay(0, 0) = NO
            size(6, 6, 4) | lay(0, 220) = 1 | lay(0, 320) = NO | lay(0, 230) = NO | lay(0, 221) = NO | lay(0, 553) = NO
            """);
    }

    /** All around are walls, so that a MOVE beyond CELLS is told from one that comes out at another side. */
    private void walledIn(int[] size, int x, int y, int z) {
        int cell = 100 * x + 10 * y + z, last = 100 * (size[0] - 1) + 10 * (size[1] - 1) + size[2] - 1;
        s.about("size " + size[0] + ", " + size[1] + ", " + size[2] + ", cell " + cell);
        s.run("size(" + size[0] + ", " + size[1] + ", " + size[2] + ")",
                "fill(0, " + last + ", 1) | fill(" + cell + ", " + cell + ", 0) = 1",
                "say 000- | thing(0) | lay(0, " + cell + ") = 1 | room(0, 0) = 24 | room(0, 1) = 5 | room(0, 2) = 1",
                "JUDGED(0) n = 0 " + (y == 0 ? 1 : 2) + " | JUDGED(0) s = 0 " + (y == size[1] - 1 ? 1 : 2),
                "JUDGED(0) w = 0 " + (x == 0 ? 1 : 2) + " | JUDGED(0) e = 0 " + (x == size[0] - 1 ? 1 : 2),
                "JUDGED(0) v = 0 " + (z == 0 ? 1 : 2) + " | JUDGED(0) u = 0 " + (z == size[2] - 1 ? 1 : 2));
    }

    private void things() {
        s.sentence("THINGS 0 to 3: CUBES, 10 at most, at x, y, z (0 to 3 each), each of the body or of a PART 0 to"
                + " 3.");
        s.run("""
            thing(-1) = UNKNOWN | thing(4) = UNKNOWN | thing(MIN) = UNKNOWN | thing(MAX) = UNKNOWN
            say 000- | thing(0) = 1 | say 000-100- | thing(1) = 2
            say 000-100-200- | thing(2) = 3 | say 000-100-200-300- | thing(3) = 4
            told(10) = 1 | told(11) = 2 | told(12) = 3 | told(13) = 4
            """);
        s.run("FAULT(0)  = 0 | FAULT(0) " + TEN + " = NONE | FAULT(0) " + TEN + "0 = 40 | FAULT(0) " + TEN + "- = 40",
                "FAULT(0) " + TEN + "300- = 40 | FAULT(0) " + TEN + "300-310-320-330-301- = 40",
                "say " + TEN + " | thing(0) = 10 | CUBES(0) = " + TEN.replace("-", "- "),
                "cube(0, 9, 1) = 2 | cube(0, 10, 0) = UNKNOWN | say " + TEN + "0 | thing(0) = NO");
        s.run("""
            say 000-333- | thing(0) = 2 | CUBES(0) = 000- 333-
            FAULT(0) 4 = 0 | FAULT(0) 04 = 1 | FAULT(0) 004 = 2 | FAULT(0) / = 0 | FAULT(0) 0/ = 1 | FAULT(0) 00/ = 2
            FAULT(0) 000-4 = 4 | FAULT(0) 000-04 = 5 | FAULT(0) 000-014 = 6 | FAULT(0) 000-333d = NONE
            """);
        s.run("""
            say 000-100-200a300b010c020d | thing(0) = 6 | CUBES(0) = 000- 100- 200a 300b 010c 020d
            FAULT(0) 000-100` = 7 | FAULT(0) 000-100e = 7 | FAULT(0) 000-100, = 7 | FAULT(0) 000-100. = 7
            FAULT(0) 000-100A = 7 | FAULT(0) 000-1000 = 7
            """);
        eachOfTenHinders();
    }

    private void eachOfTenHinders() {
        for (int cube = 0; cube < 10; cube++) {
            String cell = TEN.substring(4 * cube, 4 * cube + 3);
            s.about("CUBE " + cube + " of ten");
            s.run("size(1, 3, 4) | say " + TEN + " | thing(0) = 10 | lay(0, 0) = 1 | room(0, 0) = 1",
                    "goes(0, 0, 0, -1) = 0 | fill(" + cell + ", " + cell + ", 1)",
                    "goes(0, 0, 0, -1) = NONE | room(0, 0) = 0 | lay(0, 0) = NO");
        }
        s.about("what is beside ten does not hinder");
        s.run("size(1, 3, 4) | fill(22, 23, 1) | say " + TEN + " | thing(0) | lay(0, 0) = 1 | room(0, 0) = 1");
    }

    private void signsOfThings() {
        s.sentence("A THING is a text on a PAD of up to 60 signs (codes 33 to 126)");
        StringBuilder sixty = new StringBuilder("told(0) = 0");
        for (int i = 1; i <= 60; i++) sixty.append(" | say(" + (i % 2 == 0 ? 33 : 126) + ") = " + i);
        s.run("say(32) = OUTSIDE | say(127) = OUTSIDE | say(0) = OUTSIDE | say(-1) = OUTSIDE | say(MIN) = OUTSIDE",
                "say(MAX) = OUTSIDE | say(256) = OUTSIDE | say(304) = OUTSIDE | say(65584) = OUTSIDE | told(0) = 0",
                sixty.toString(), "say(33) = FULL | say(126) = FULL | told(0) = 60 | wipe() = 60 | say(126) = 1");

        s.sentence("CUBES one behind another: three digits 0 to 3 and - (body) or a to d (PARTS 0 to 3)");
        for (char sign = 33; sign <= 126; sign++) {
            boolean digit = sign >= '0' && sign <= '3', part = sign == '-' || sign >= 'a' && sign <= 'd';
            s.run("FAULT(0) " + sign + " = " + (digit ? 1 : 0), "FAULT(0) 0" + sign + " = " + (digit ? 2 : 1),
                    "FAULT(0) 00" + sign + " = " + (digit ? 3 : 2),
                    "FAULT(0) 000" + sign + " = " + (sign == '-' ? "NONE" : 3),
                    "FAULT(0) 000-" + sign + " = " + (digit ? 5 : 4), "FAULT(0) 000-1" + sign + " = " + (digit ? 6 : 5),
                    "FAULT(0) 000-12" + sign + " = " + (digit ? 7 : 6),
                    "FAULT(0) 000-123" + sign + " = " + (part ? "NONE" : 7));
        }

        s.sentence("no CUBE twice (the third digit of one that is there can not stand)");
        s.run("""
            FAULT(0) 000-000- = 6 | FAULT(0) 000-000a = 6 | FAULT(0) 000-00 = 6 | FAULT(0) 000-001- = NONE
            FAULT(0) 000-001-001- = 10 | FAULT(0) 000-001-000- = 10 | FAULT(0) 000-001-002- = NONE
            FAULT(0) 000-010-100-010- = 14 | FAULT(0) 000-010-100-110-111- = NONE | FAULT(0) 123-123 = 6
            FAULT(0) 000-100-010-001-101-110-011-111-200-200- = 38
            FAULT(0) 000-100-010-001-101-110-011-111-200-000- = 38
            FAULT(0) 000-100-010-001-101-110-011-111-200-002- = NONE
            """);

        s.sentence("the first one is of the body");
        s.run("FAULT(0) 000- = NONE | FAULT(0) 000a = 3 | FAULT(0) 000d = 3 | FAULT(0) 000a001- = 3",
                "FAULT(0) 000-001a002d = NONE");

        s.sentence("the least x, y, z of all are 0");
        s.run("""
            FAULT(0) 100- = 4 | FAULT(0) 010- = 4 | FAULT(0) 001- = 4 | FAULT(0) 111- = 4 | FAULT(0) 333- = 4
            FAULT(0) 110-100- = 8 | FAULT(0) 110-010- = 8 | FAULT(0) 101-001- = 8 | FAULT(0) 100-010- = NONE
            FAULT(0) 110-101-011- = NONE | FAULT(0) 111-000a = NONE | FAULT(0) 333-000- = NONE | FAULT(0) 100-0 = 5
            FAULT(0) 100-101-102-103-110-111-112-113-120-121- = 40 | say 100- | thing(0) = NO
            """);
    }

    private void rows() {
        s.sentence("A ROW is a text of MOVES, 40 at most");
        String many = "z".repeat(39);
        s.run("FAULT(1)  = NONE | FAULT(1) " + FORTY + " = NONE | FAULT(1) " + FORTY + "n = 40",
                "FAULT(1) " + FORTY + FORTY.substring(0, 20) + " = 40 | FAULT(1) -" + FORTY + " = 0",
                "FAULT(1) " + FORTY + "- = 40 | FAULT(1) " + FORTY.substring(0, 39) + "- = 39");
        s.run("size(2, 1, 1) | say 000- | thing(0) | lay(0, 0) = 1",
                "JUDGED(0) " + many + "n = 39 1 | JUDGED(0) " + many + "e = NONE | JUDGED(0) " + many + "en = NO",
                "say " + many + "e | move(0) = 100 | say " + many + "zw | move(0) = NO | wipe() = 41 | told(20) = 100",
                "say " + many + "z | lay(0, 0) = 1 | say " + many + "zz | lay(0, 100) = NO | wipe() = 41",
                "told(20) = 0");

        s.sentence("n (y 1 less), s (y 1 more), w (x 1 less), e (x 1 more), u (z 1 more), v (z 1 less), and TURNS:"
                + " x, y, z about that axis, X, Y, Z the other way round.");
        s.run("size(3, 3, 3) | say 000- | thing(0)", """
            lay(0, 111) | say n | move(0) = 101 | lay(0, 111) | say s | move(0) = 121
            lay(0, 111) | say w | move(0) = 11 | lay(0, 111) | say e | move(0) = 211
            lay(0, 111) | say u | move(0) = 112 | lay(0, 111) | say v | move(0) = 110
            lay(0, 111) | say xyzXYZ | move(0) = 111
            JUDGED(0) nn = 1 1 | JUDGED(0) ss = 1 1 | JUDGED(0) ww = 1 1 | JUDGED(0) ee = 1 1
            JUDGED(0) uu = 1 1 | JUDGED(0) vv = 1 1
            """);
        for (char sign = 33; sign <= 126; sign++) {
            s.run("FAULT(1) " + sign + " = " + ("nsweuvxyzXYZ".indexOf(sign) >= 0 ? "NONE" : 0));
        }
    }

    private void theFault() {
        s.sentence("THE FAULT (how: 0 THING, 1 ROW): the place (from 0 on) of the first sign that can not stand"
                + " there, or the number of signs, if more must come, or if some least number is not 0.");
        s.run("""
            fault(-1) = OUTSIDE | fault(2) = OUTSIDE | fault(0) = 0 | fault(1) = NONE
            FAULT(0) 0 = 1 | FAULT(0) 00 = 2 | FAULT(0) 000 = 3 | FAULT(0) 000- = NONE
            FAULT(0) 000-0 = 5 | FAULT(0) 000-00 = 6 | FAULT(0) 000-001 = 7 | FAULT(0) 000-001- = NONE
            FAULT(0) - = 0 | FAULT(0) 0- = 1 | FAULT(0) 00- = 2 | FAULT(0) 0000 = 3 | FAULT(0) 000-- = 4
            FAULT(0) 9000- = 0 | FAULT(0) 000-9! = 4 | FAULT(0) 100-1 = 5 | FAULT(0) 100-101a = 8 | FAULT(0) 1009 = 3
            FAULT(1) n = NONE | FAULT(1) 0n = 0 | FAULT(1) n0 = 1 | FAULT(1) nsweuvxyzXYZ0 = 12 | FAULT(1) N = 0
            """);
        // ten of which the first can not stand, and ten that lack one sign
        s.run("FAULT(0) a" + TEN.substring(1) + " = 0 | FAULT(0) " + TEN.substring(0, 39) + " = 39",
                "FAULT(0) " + TEN.substring(0, 39) + "! = 39");
    }

    private void turns() {
        s.sentence("A TURN of a THING: z: x becomes less y, y becomes x; x: y becomes less z, z becomes y; y: z"
                + " becomes less x, x becomes z; then all is pushed so that its least x, y, z (of all CUBES, those"
                + " taken off, too) are 0 again.");
        s.run("size(6, 6, 4) | say 000-300a020b001c | thing(0) | CUBES(0) = 000- 300a 020b 001c", """
            say z | lay(0, 0) | CUBES(0) = 200- 230a 000b 201c
            say x | lay(0, 0) | CUBES(0) = 010- 310a 012b 000c
            say y | lay(0, 0) | CUBES(0) = 003- 000a 023b 103c
            say Z | lay(0, 0) | CUBES(0) = 030- 000a 230b 031c
            say X | lay(0, 0) | CUBES(0) = 002- 302a 000b 012c
            say Y | lay(0, 0) | CUBES(0) = 100- 103a 120b 000c
            say xz | lay(0, 0) | CUBES(0) = 000- 030a 002b 100c
            say zx | lay(0, 0) | CUBES(0) = 210- 213a 010b 200c
            """);
        // by Z the body comes to the CELL beside, since the PART that is off stands at the least corner then
        s.about("those taken off, too");
        s.run("size(2, 2, 1) | say 000-100a | thing(0) | lay(0, 0) | goal(0, 100) | fill(100, 100, 1)",
                "GOES(0, 1, 0) = Ze | GOES(0, 15, 15) = Ze | EFFORT(0, 1, 0) = 2 Ze | goes(0, 0, 0, -1) = NONE");

        s.sentence("X, Y, Z undo x, y, z.");
        for (String row : new String[] {"xX", "Xx", "yY", "Yy", "zZ", "Zz", "xyzZYX", "XYZzyx", "xxxx", "yyyy", "zzzz",
            "XXXX", "YYYY", "ZZZZ", "zzxxyy"}) {
            s.run("size(6, 6, 4) | say 000-300a020b001c | thing(0)",
                    "say " + row + " | lay(0, 0) | CUBES(0) = 000- 300a 020b 001c",
                    "say " + row + " | move(0) = 0 | CUBES(0) = 000- 300a 020b 001c");
        }
        for (String turn : new String[] {"x", "y", "z"}) {
            String back = turn.toUpperCase();
            String same = turn.equals("x") ? "010- 310a 012b 000c"
                    : turn.equals("y") ? "003- 000a 023b 103c" : "200- 230a 000b 201c";
            s.run("size(6, 6, 4) | say 000-300a020b001c | thing(0)",
                    "say " + back + back + back + " | lay(0, 0) | CUBES(0) = " + same,
                    "say " + turn.repeat(5) + " | lay(0, 0) | CUBES(0) = " + same);
        }
    }

    private void stands() {
        s.sentence("A STAND of it: a CELL (where its least corner is) and how it is turned (24 ways, each for"
                + " itself, also where CUBES come to lie alike by two of them; as told first).");
        s.run("size(1, 1, 1) | say 000- | thing(0) | CUBES(0) = 000- | lay(0, 0) | room(0, 0) = 24");
        s.run("size(6, 6, 4) | say 000- | thing(0) | lay(0, 0) | room(0, 0) = 3456");
        s.run("size(4, 4, 4) | say 000-333- | thing(0) | lay(0, 0) | room(0, 0) = 24");
        s.run("size(3, 1, 1) | say 000-100-200- | thing(0) | lay(0, 0) | room(0, 0) = 4 | fill(0, 0, 1)",
                "room(0, 0) = 0");
        // the CELL is where the least corner is, whether a CUBE is there or not
        s.run("size(2, 2, 1) | say 100-010- | thing(0) | lay(0, 0) = 1 | told(20) = 0 | cube(0, 0, 0) = 1");

        s.sentence("It FITS, if where its least corner is there is a CELL, and each CUBE that is not taken off lies"
                + " in one that is free (or a DOOR that is off).");
        s.run("size(2, 2, 1) | fill(0, 0, 1) | say 100-010- | thing(0) | lay(0, 0) = 1 | room(0, 0) = 1",
                "goes(0, 0, 0, -1) = 0");
        s.run("size(2, 1, 1) | say 000-100a | thing(0) | lay(0, 0) | fill(100, 100, 5)",
                "goes(0, 0, 0, -1) = NONE | goes(0, 1, 0, -1) = 0 | goes(0, 0, 8, -1) = 0 | goes(0, 2, 7, -1) = NONE",
                "fill(0, 0, 2) | goes(0, 1, 0, -1) = NONE | goes(0, 1, 1, -1) = 0 | goes(0, 0, 9, -1) = 0",
                "fill(0, 0, 1) | goes(0, 15, 15, -1) = NONE");
        // with its least corner beyond CELLS it would come by without a TURN: w, s, s, e
        s.run("""
            size(2, 3, 1) | say 000-100a | thing(0) | say zz | lay(0, 0) | CUBES(0) = 100- 000a
            fill(110, 110, 1) | goal(0, 20) | cost(-2, 3, 9)
            GOES(0, 1, 0) = yss | EFFORT(0, 1, 0) = 11 yss
            """);
    }

    private void promises1To4() {
        s.sentence("`SofaStair()`: All CELLS are free, no THING was told.");
        StringBuilder free = new StringBuilder();
        for (int i = 0; i < 72; i++) free.append("cell(" + (100 * (i / 12) + 10 * (i / 2 % 6) + i % 2) + ") = 0\n");
        s.run(free.toString(), "told(0) = 0 | fault(0) = 0 | fault(1) = NONE | wipe() = 0 | bar(0) = STATE",
                "order(15, 0) = STATE");
        for (int thing = 0; thing < 4; thing++) {
            s.run("told(1" + thing + ") = 0 | told(2" + thing + ") = NONE | told(3" + thing + ") = 0",
                    "cube(" + thing + ", 0, 0) = UNKNOWN | lay(" + thing + ", 0) = STATE",
                    "judge(" + thing + ", 0) = STATE",
                    "move(" + thing + ") = STATE | goes(" + thing + ", 0, 0, -1) = STATE",
                    "room(" + thing + ", 0) = STATE");
        }

        s.sentence("`int size(int x, int y, int z)`: X, Y, Z: CELLS in all. All are free then, no THING lies, GOALS"
                + " are 0. OUTSIDE.");
        s.run(SCENE + "say zz", """
            fill(0, 210, 1) = 6 | size(3, 2, 1) = 6
            cell(0) = 0 | cell(10) = 0 | cell(100) = 0 | cell(110) = 0 | cell(200) = 0 | cell(210) = 0
            told(20) = NONE | told(21) = NONE | told(30) = 0 | told(10) = 2 | told(11) = 2 | told(12) = 1 | told(13) = 0
            goes(0, 0, 0, -1) = STATE | order(1, 0) = STATE | bar(0) = STATE | CUBES(1) = 000- 010b
            cost(0, 0, 1) = 5 | cost(-1, 0, 1) = 3 | cost(-2, 1, 1) = 2 | told(0) = 2
            """);
        s.refused(SCENE + "say 000-010c", """
            size(0, 1, 1) = OUTSIDE | size(7, 1, 1) = OUTSIDE | size(1, 0, 1) = OUTSIDE | size(1, 7, 1) = OUTSIDE
            size(1, 1, 0) = OUTSIDE | size(1, 1, 5) = OUTSIDE | size(-1, 2, 1) = OUTSIDE | size(MIN, MIN, MIN) = OUTSIDE
            size(MAX, 1, 1) = OUTSIDE | size(2, MAX, 2) = OUTSIDE | size(2, 2, MAX) = OUTSIDE | size(0, 0, 0) = OUTSIDE
            size(6, 6, -4) = OUTSIDE | size(6, -6, 4) = OUTSIDE | size(-6, 6, 4) = OUTSIDE
            """);

        s.sentence("`int fill(int from, int to, int kind)`: All CELLS between two corners (both, too) are of a"
                + " KIND: how many. UNKNOWN: the corners; OUTSIDE: the KIND; a corner is not before the other one"
                + " in each direction.");
        s.run("""
            size(4, 4, 4) = 64 | fill(111, 222, 3) = 8
            cell(111) = 3 | cell(222) = 3 | cell(112) = 3 | cell(221) = 3 | cell(211) = 3 | cell(122) = 3
            cell(11) = 0 | cell(101) = 0 | cell(110) = 0 | cell(322) = 0 | cell(232) = 0 | cell(223) = 0
            fill(0, 0, 5) = 1 | cell(0) = 5 | cell(1) = 0 | cell(10) = 0 | cell(100) = 0
            fill(0, 3, 1) = 4 | fill(0, 30, 1) = 4 | fill(0, 300, 1) = 4 | cell(3) = 1 | cell(30) = 1 | cell(300) = 1
            fill(0, 333, 0) = 64 | cell(222) = 0 | fill(333, 333, 2) = 1 | fill(333, 333, 2) = 1
            size(1, 1, 1) = 1 | fill(0, 0, 1) = 1 | size(6, 6, 4) = 144 | fill(0, 553, 1) = 144
            """);
        // the THING is in a wall then, lies there all the same, and comes free again
        s.run("size(2, 1, 1) | say 000- | thing(0) | lay(0, 0) | room(0, 0) = 48 | fill(0, 0, 1) | told(20) = 0",
                "room(0, 0) = 0",
                "fill(0, 0, 0) | room(0, 0) = 48");
        s.refused(SCENE + "say 000-010c", """
            fill(-1, 0, 1) = UNKNOWN | fill(0, -1, 1) = UNKNOWN | fill(300, 210, 1) = UNKNOWN
            fill(0, 300, 1) = UNKNOWN
            fill(0, 20, 1) = UNKNOWN | fill(0, 1, 1) = UNKNOWN | fill(MIN, MAX, 1) = UNKNOWN | fill(0, 211, 1) = UNKNOWN
            fill(-1, 0, 6) = UNKNOWN | fill(300, 0, -1) = UNKNOWN | fill(210, 1, 9) = UNKNOWN
            fill(300, 300, 1) = UNKNOWN
            fill(0, 210, -1) = OUTSIDE | fill(0, 210, 6) = OUTSIDE | fill(0, 0, MIN) = OUTSIDE
            fill(0, 0, MAX) = OUTSIDE
            fill(100, 10, 1) = OUTSIDE | fill(10, 100, 1) = OUTSIDE | fill(210, 0, 1) = OUTSIDE
            fill(110, 200, 6) = OUTSIDE
            """);
        s.run("size(2, 2, 2) | fill(1, 110, 1) = OUTSIDE | fill(10, 101, 1) = OUTSIDE | fill(100, 11, 1) = OUTSIDE",
                "fill(111, 0, 1) = OUTSIDE | fill(1, 0, 1) = OUTSIDE | cell(1) = 0 | cell(110) = 0");

        s.sentence("`int cell(int cell)`: KIND of a CELL. UNKNOWN.");
        s.run(SCENE, "cell(0) = 0 | cell(210) = 2");
        s.refused(SCENE,
                "cell(-1) = UNKNOWN | cell(300) = UNKNOWN | cell(20) = UNKNOWN | cell(1) = UNKNOWN",
                "cell(211) = UNKNOWN");
    }

    private void promises5To7() {
        String full = SCENE + "say 000-010c" + "z".repeat(52);

        s.sentence("`int say(int sign)`: A sign more: how many. OUTSIDE; FULL.");
        s.run("say(48) = 1 | say(48) = 2 | say(48) = 3 | say(45) = 4 | thing(0) = 1 | say(33) = 1 | say(126) = 2",
                "image(0) | restore(0) | say(48) = 3 | size(1, 1, 1) | say(48) = 4");
        s.refused(SCENE + "say 000-010c",
                "say(32) = OUTSIDE | say(127) = OUTSIDE | say(MIN) = OUTSIDE | say(MAX) = OUTSIDE");
        s.refused(full, "say(48) = FULL | say(33) = FULL | say(126) = FULL | say(32) = OUTSIDE | say(127) = OUTSIDE");

        s.sentence("`int wipe()`: Signs go: how many there were.");
        s.run("wipe() = 0 | wipe() = 0 | say(33) = 1 | wipe() = 1 | told(0) = 0 | wipe() = 0", full,
                "wipe() = 60 | told(0) = 0 | wipe() = 0 | fault(0) = 0 | fault(1) = NONE");
        // signs that are gone do not come again
        s.run("say 000-100- | wipe() = 8 | say 000- | fault(0) = NONE | thing(0) = 1 | CUBES(0) = 000-");

        s.sentence("`int fault(int how)`: THE FAULT; NONE. OUTSIDE: how.");
        s.run("say 000- | fault(0) = NONE | fault(1) = 0 | wipe() | say zz | fault(0) = 0 | fault(1) = NONE");
        s.refused(SCENE + "say 000-010c",
                "fault(-1) = OUTSIDE | fault(2) = OUTSIDE | fault(MIN) = OUTSIDE | fault(MAX) = OUTSIDE");
    }

    private void promises8To10() {
        s.sentence("`int thing(int thing)`: The PAD becomes a THING (it is empty then; it lies nowhere): CUBES."
                + " UNKNOWN; NO: there is a FAULT.");
        s.run(SCENE + "say 000-001c002d", """
            thing(0) = 3 | told(0) = 0 | told(10) = 3 | told(20) = NONE | CUBES(0) = 000- 001c 002d
            goes(0, 0, 0, -1) = STATE | told(21) = 100 | told(30) = 100 | cost(0, 0, 1) = 5
            thing(0) = NO | say 000- | thing(3) = 1 | told(13) = 1 | told(23) = NONE | CUBES(3) = 000-
            """);
        // of what it was before nothing is left: no CUBE, no PART, no length along an axis
        s.run("size(4, 4, 4) | say 000-303a030b | thing(0) = 3 | lay(0, 0) | say 000-110- | thing(0) = 2",
                "cube(0, 2, 0) = UNKNOWN",
                "say zz | lay(0, 0) | CUBES(0) = 110- 000- | say xx | lay(0, 220) = 1 | CUBES(0) = 010- 100-",
                "LEAST(0) = 0 0 0");
        s.refused(SCENE + "say 000-010c",
                "thing(-1) = UNKNOWN | thing(4) = UNKNOWN | thing(MIN) = UNKNOWN | thing(MAX) = UNKNOWN");
        String[] pads = {"", "000", "000-0", "000-000-", "100-", "000a", "zz", TEN + "300-"};
        for (String pad : pads) {
            s.refused(SCENE + (pad.isEmpty() ? "" : "say " + pad),
                    "thing(0) = NO | thing(2) = NO | thing(3) = NO | thing(-1) = UNKNOWN | thing(4) = UNKNOWN");
        }

        s.sentence("`int cube(int thing, int cube, int what)`: Of a CUBE as it lies (as told, if it does not): 0 x,"
                + " 1 y, 2 z from its least corner, 3 the PART (NONE: body). UNKNOWN; OUTSIDE.");
        s.run(SCENE, """
            CUBES(0) = 000- 100a | CUBES(1) = 100- 000b | CUBES(2) = 000-
            size(3, 3, 3) | CUBES(1) = 000- 010b | say 000- | thing(1) | CUBES(1) = 000-
            """);
        s.refused(SCENE + "say 000-010c", """
            cube(-1, 0, 0) = UNKNOWN | cube(4, 0, 0) = UNKNOWN | cube(MIN, 0, 0) = UNKNOWN | cube(MAX, 0, 0) = UNKNOWN
            cube(3, 0, 0) = UNKNOWN | cube(0, -1, 0) = UNKNOWN | cube(0, 2, 0) = UNKNOWN | cube(2, 1, 3) = UNKNOWN
            cube(0, MIN, 0) = UNKNOWN | cube(0, MAX, 0) = UNKNOWN | cube(0, 2, 4) = UNKNOWN | cube(4, 0, -1) = UNKNOWN
            cube(3, 0, 4) = UNKNOWN | cube(0, 0, -1) = OUTSIDE | cube(0, 1, 4) = OUTSIDE | cube(2, 0, MIN) = OUTSIDE
            cube(1, 0, MAX) = OUTSIDE
            """);

        s.sentence("`int cost(int thing, int which, int v)`: Cost of a PART of a THING (-1: of a DOOR; of MOVES:"
                + " -2, of going, lifting, letting down, turning 0 to 3): which it was. UNKNOWN: others than -2 to"
                + " 3; OUTSIDE.");
        StringBuilder costs = new StringBuilder();
        for (int round = 0; round < 3; round++) {
            for (int i = 0; i < 24; i++) {
                int before = round == 0 ? 1 : round == 1 ? i % 10 : 9, now = round == 0 ? i % 10 : round == 1 ? 9 : 0;
                costs.append("cost(" + (i / 4 - 2) + ", " + i % 4 + ", " + now + ") = " + before + "\n");
            }
        }
        s.run(costs.toString());
        s.refused(SCENE + "say 000-010c", """
            cost(-3, 0, 0) = UNKNOWN | cost(4, 0, 0) = UNKNOWN | cost(MIN, 0, 0) = UNKNOWN | cost(MAX, 0, 0) = UNKNOWN
            cost(-3, 4, 0) = UNKNOWN | cost(4, 0, 10) = UNKNOWN | cost(-3, -1, -1) = UNKNOWN
            cost(-2, -1, 0) = OUTSIDE | cost(-2, 4, 0) = OUTSIDE | cost(-1, -1, 0) = OUTSIDE | cost(-1, 4, 0) = OUTSIDE
            cost(0, -1, 0) = OUTSIDE | cost(0, 4, 0) = OUTSIDE | cost(3, MIN, 0) = OUTSIDE | cost(3, MAX, 0) = OUTSIDE
            cost(-2, 0, -1) = OUTSIDE | cost(-2, 0, 10) = OUTSIDE | cost(-1, 3, -1) = OUTSIDE
            cost(-1, 3, 10) = OUTSIDE
            cost(0, 0, -1) = OUTSIDE | cost(0, 0, 10) = OUTSIDE | cost(3, 3, MIN) = OUTSIDE | cost(3, 3, MAX) = OUTSIDE
            """);
    }
}
