/** Promises 11 to 17: lying, rows of moves, going, effort, room. */
public final class GoingTest {
    private static final Due due = new Due();
    private static final int MIN = Integer.MIN_VALUE, MAX = Integer.MAX_VALUE;

    public static void main(String[] args) {
        lay();
        goal();
        judge();
        judgeWhereItDoesNotFit();
        move();
        goes();
        goesThroughDoors();
        effort();
        refusals();
        comesTo();
        scrapes();
        turnable();
        due.end();
    }

    private static SofaStair way(int x, int y, int z, String thing) {
        SofaStair s = new SofaStair();
        s.size(x, y, z);
        Due.say(s, thing);
        s.thing(0);
        return s;
    }

    private static int lay(SofaStair s, String row, int cell) {
        Due.say(s, row);
        int lies = s.lay(0, cell);
        if (lies != 1) {
            due.is("signs that stay", s.wipe(), row.length());
        } else {
            due.is("signs", s.told(0), 0);
        }
        return lies;
    }

    private static void rowIs(String what, SofaStair s, int parts, int doors, String row) {
        for (int i = 0; i < row.length(); i++) due.is(what + " goes " + i, s.goes(0, parts, doors, i), row.charAt(i));
        due.is(what + " goes -1", s.goes(0, parts, doors, -1), row.length());
        due.is(what + " goes behind", s.goes(0, parts, doors, row.length()), -6);
        due.is(what + " goes -2", s.goes(0, parts, doors, -2), -6);
        due.is(what + " goes far", s.goes(0, parts, doors, MAX), -6);
        due.is(what + " goes far", s.goes(0, parts, doors, MIN), -6);
    }

    private static void effortIs(String what, SofaStair s, int parts, int doors, int sum, String row) {
        due.is(what + " effort", s.effort(0, parts, doors, -1), sum);
        for (int i = 0; i < row.length(); i++) due.is(what + " effort " + i, s.effort(0, parts, doors, i), row.charAt(i));
        due.is(what + " effort behind", s.effort(0, parts, doors, row.length()), -6);
        due.is(what + " effort -2", s.effort(0, parts, doors, -2), -6);
    }

    private static void lay() {
        due.about("promise 11");
        SofaStair s = way(3, 3, 1, "000-100a");
        due.is("as told", lay(s, "", 0), 1);
        due.is("lies", s.told(20), 0);
        due.is("along x", s.cube(0, 1, 0), 1);
        due.is("turned", lay(s, "z", 210), 1);
        due.is("lies", s.told(20), 210);
        due.is("along y", s.cube(0, 1, 1), 1);
        due.is("as told again", lay(s, "", 100), 1);
        due.is("along x", s.cube(0, 1, 0), 1);
        due.is("beyond x", lay(s, "", 200), -5);
        due.is("beyond y", lay(s, "z", 20), -5);
        due.is("beyond z", lay(s, "y", 0), -5);
        due.is("a move", lay(s, "n", 0), -5);
        due.is("a turn and a move", lay(s, "zu", 0), -5);
        due.is("a fault", lay(s, "z-", 0), -5);
        due.is("lies where it lay", s.told(20), 100);
        due.is("forty turns", lay(s, "zzzzzzzzzzzzzzzzzzzzzzzzzzzzzzzzzzzzzzzz", 0), 1);
        due.is("forty-one", lay(s, "zzzzzzzzzzzzzzzzzzzzzzzzzzzzzzzzzzzzzzzzz", 0), -5);
        s.fill(100, 100, 1);
        due.is("into a wall", lay(s, "", 0), -5);
        for (int door = 2; door < 6; door++) {
            s.fill(100, 100, door);
            due.is("into a door", lay(s, "", 0), -5);
        }
        due.is("beside it", lay(s, "Z", 0), 1);
        Due.say(s, "!");
        due.is("thing", s.lay(-1, 0), -1);
        due.is("thing", s.lay(4, 0), -1);
        due.is("cell", s.lay(0, 300), -1);
        due.is("cell", s.lay(1, -1), -1);
        due.is("not told", s.lay(1, 0), -3);
        s.wipe();
        Due.say(s, "000-");
        s.thing(1);
        due.is("others are not there", s.lay(1, 0), 1);
    }

    private static void goal() {
        due.about("promise 12");
        SofaStair s = new SofaStair();
        due.is("not told", s.goal(3, 551), 0);
        due.is("which it was", s.goal(3, 10), 551);
        s.fill(0, 551, 1);
        due.is("in a wall", s.goal(3, 0), 10);
        due.is("thing", s.goal(-1, 0), -1);
        due.is("thing", s.goal(4, 0), -1);
        due.is("cell", s.goal(0, 2), -1);
        due.is("cell", s.goal(0, MIN), -1);
        due.is("another's", s.goal(0, 0), 0);
    }

    private static void judged(SofaStair s, String row, int move, int why) {
        Due.say(s, row);
        due.is(row + " judge(0, 0)", s.judge(0, 0), move);
        due.is(row + " judge(0, 1)", s.judge(0, 1), why);
        due.is(row + " stays", s.wipe(), row.length());
    }

    private static void judge() {
        due.about("promise 13");
        SofaStair s = way(3, 3, 2, "000-100a");
        due.is("does not lie", s.judge(0, 0), -3);
        s.lay(0, 10);
        s.fill(200, 201, 1);
        s.fill(220, 221, 4);
        judged(s, "", -6, -6);
        judged(s, "e", -6, -6);
        judged(s, "w", 0, 1);
        judged(s, "ee", 1, 1);
        judged(s, "v", 0, 1);
        judged(s, "uu", 1, 1);
        judged(s, "en", 1, 2);
        judged(s, "es", 1, 2);
        judged(s, "nnn", 1, 1);
        judged(s, "ne", 1, 2);
        judged(s, "nee", 1, 2);
        judged(s, "zy", -6, -6);
        judged(s, "zzxXZZ", -6, -6);
        judged(s, "y", -6, -6);
        judged(s, "yu", 1, 1);
        judged(s, "wenenenen", 0, 1);
        s.lay(0, 110);
        judged(s, "n", 0, 2);
        judged(s, "nwwww", 0, 2);
        s.fill(100, 101, 1);
        s.fill(0, 0, 1);
        due.is("lie along y", lay(s, "z", 10), 1);
        judged(s, "n", 0, 2);
        judged(s, "s", 0, 1);
        // one CUBE beyond CELLS, the other one in a wall: the least of the two
        s.fill(20, 20, 1);
        judged(s, "ses", 0, 1);
        Due.say(s, "n!");
        due.is("fault", s.judge(0, 0), -5);
        due.is("fault", s.judge(0, 1), -5);
        due.is("not told, fault", s.judge(1, 0), -3);
        due.is("what", s.judge(1, 2), -2);
        due.is("what", s.judge(0, -1), -2);
        due.is("thing", s.judge(4, 2), -1);
        due.is("thing", s.judge(-1, 0), -1);
        s.wipe();
        for (int i = 0; i < 41; i++) s.say('x');
        due.is("forty-one", s.judge(0, 0), -5);
    }

    private static void judgeWhereItDoesNotFit() {
        due.about("promise 13, walls come later");
        SofaStair s = way(3, 1, 1, "000-");
        s.lay(0, 0);
        s.fill(0, 0, 1);
        judged(s, "", -6, -6);
        judged(s, "e", -6, -6);
        judged(s, "ew", 1, 2);
        judged(s, "x", 0, 2);
        Due.say(s, "e");
        due.is("out of it", s.move(0), 100);
    }

    private static void move() {
        due.about("promise 14");
        SofaStair s = way(3, 3, 2, "000-100a");
        due.is("does not lie", s.move(0), -3);
        due.is("not told", s.move(1), -3);
        due.is("thing", s.move(-1), -1);
        due.is("thing", s.move(4), -1);
        s.lay(0, 0);
        due.is("no moves", s.move(0), 0);
        Due.say(s, "esuzvn");
        due.is("done", s.move(0), 100);
        due.is("pad", s.told(0), 0);
        due.is("lies", s.told(20), 100);
        due.is("turned", s.cube(0, 1, 1), 1);
        Due.say(s, "ee");
        due.is("can not be", s.move(0), -5);
        due.is("pad stays", s.wipe(), 2);
        due.is("lies", s.told(20), 100);
        Due.say(s, "ssn");
        due.is("can not be in between", s.move(0), -5);
        s.wipe();
        Due.say(s, "s?");
        due.is("fault", s.move(0), -5);
        due.is("not told, fault", s.move(1), -3);
        due.is("pad stays", s.wipe(), 2);
        Due.say(s, "Y");
        due.is("turned about its own axis", s.move(0), 100);
        Due.say(s, "X");
        due.is("upright", s.move(0), 100);
        due.is("cube x", s.cube(0, 1, 0), 0);
        due.is("cube y", s.cube(0, 1, 1), 0);
        due.is("cube z", s.cube(0, 1, 2), 0);
        due.is("body z", s.cube(0, 0, 2), 1);
    }

    private static void goes() {
        due.about("promise 15");
        SofaStair s = way(3, 3, 1, "000-");
        s.lay(0, 0);
        s.goal(0, 220);
        rowIs("first by the order", s, 0, 0, "ssee");
        s.lay(0, 220);
        s.goal(0, 0);
        rowIs("back", s, 0, 0, "nnww");
        s.goal(0, 220);
        rowIs("there already", s, 0, 0, "");
        s.fill(220, 220, 1);
        due.is("does not fit where it lies", s.goes(0, 0, 0, -1), -6);
        due.is("does not fit where it lies", s.goes(0, 0, 0, 0), -6);
        s.lay(0, 0);
        due.is("goal in a wall", s.goes(0, 0, 0, -1), -6);

        s = way(1, 1, 4, "000-");
        s.lay(0, 1);
        s.goal(0, 3);
        rowIs("up", s, 0, 0, "uu");
        s.goal(0, 0);
        rowIs("down", s, 0, 0, "v");

        s = way(3, 3, 1, "000-100-");
        s.fill(10, 20, 1);
        s.fill(120, 120, 1);
        s.lay(0, 0);
        s.goal(0, 210);
        rowIs("round the corner", s, 0, 0, "ezes");
        s.fill(110, 110, 1);
        due.is("no room to turn", s.goes(0, 0, 0, -1), -6);

        s = way(2, 2, 2, "000-100-110-");
        s.lay(0, 0);
        s.goal(0, 1);
        rowIs("a corner up", s, 0, 0, "u");
        s.fill(1, 1, 1);
        due.is("a cube at its corner", lay(s, "zz", 0), 1);
        rowIs("its cell may be a wall, where no cube is", s, 0, 0, "Zu");
    }

    private static void goesThroughDoors() {
        due.about("promise 15, parts and doors");
        SofaStair s = way(4, 1, 1, "000-100b");
        s.lay(0, 0);
        s.goal(0, 300);
        due.is("the part is beyond", s.goes(0, 0, 0, -1), -6);
        due.is("another part off", s.goes(0, 13, 0, -1), -6);
        rowIs("the part off", s, 2, 0, "eee");
        s.fill(200, 200, 4);
        due.is("a door", s.goes(0, 2, 0, -1), -6);
        due.is("other doors off", s.goes(0, 2, 11, -1), -6);
        rowIs("the door off", s, 2, 4, "eee");
        rowIs("all off", s, 15, 15, "eee");
        s.fill(0, 0, 2);
        due.is("does not fit any more", s.goes(0, 2, 4, -1), -6);
        rowIs("with that door off", s, 2, 5, "eee");
        s.fill(0, 0, 1);
        due.is("walls stay", s.goes(0, 15, 15, -1), -6);
    }

    private static void effort() {
        due.about("promise 16");
        SofaStair s = way(3, 2, 2, "000-");
        s.lay(0, 0);
        s.goal(0, 200);
        effortIs("straight", s, 0, 0, 2, "ee");
        s.fill(100, 100, 3);
        effortIs("through the door", s, 0, 2, 2, "ee");
        effortIs("round it", s, 0, 0, 4, "seen");
        s.cost(-2, 1, 0);
        effortIs("over it", s, 0, 0, 3, "ueev");
        s.cost(-2, 2, 2);
        effortIs("again round it", s, 0, 0, 4, "seen");
        s.cost(-2, 0, 3);
        effortIs("over it", s, 0, 0, 8, "ueev");
        rowIs("goes all the same", s, 0, 0, "seen");
        for (int which = 0; which < 4; which++) s.cost(-2, which, 0);
        effortIs("for nothing, the fewest", s, 0, 0, 0, "seen");
        s.goal(0, 0);
        effortIs("there already", s, 0, 0, 0, "");
        s.goal(0, 100);
        due.is("can not", s.effort(0, 0, 0, -1), -6);
        due.is("can not", s.effort(0, 0, 0, 0), -6);
        s.fill(0, 0, 1);
        due.is("does not fit", s.effort(0, 0, 2, -1), -6);

        s = way(2, 2, 4, "000-001a002b");
        s.lay(0, 0);
        s.goal(0, 1);
        effortIs("three up", s, 0, 0, 3, "u");
        effortIs("two up", s, 1, 0, 2, "u");
        effortIs("one up", s, 3, 0, 1, "u");
        effortIs("parts that are not", s, 12, 0, 3, "u");
        s.cost(-2, 1, 5);
        effortIs("three up", s, 0, 0, 15, "u");
        s.cost(-2, 1, 1);
        s.goal(0, 101);
        effortIs("going first", s, 0, 0, 4, "eu");
        s.lay(0, 101);
        s.goal(0, 0);
        s.cost(-2, 2, 7);
        effortIs("let down", s, 0, 0, 8, "wv");

        s = way(3, 3, 1, "000-100-");
        s.fill(10, 20, 1);
        s.fill(120, 120, 1);
        s.lay(0, 0);
        s.goal(0, 210);
        s.cost(-2, 3, 9);
        effortIs("turning", s, 0, 0, 12, "ezes");
        s.cost(-2, 0, 0);
        effortIs("turning alone costs", s, 0, 0, 9, "ezes");
        for (char turn : "xyzXYZ".toCharArray()) turnFirst(turn);
    }

    /** All is walls but where the thing lies, turns and goes east: that TURN is the first MOVE of the ROW. */
    private static void turnFirst(char turn) {
        SofaStair s = way(4, 4, 4, "000-100-200-010-001-");
        boolean[] needed = new boolean[1000];
        lay(s, "" + turn, 100);
        mark(s, needed);
        lay(s, "" + turn, 0);
        mark(s, needed);
        lay(s, "", 0);
        mark(s, needed);
        for (int cell = 0; cell < 400; cell++) {
            if (s.cell(cell) == 0 && !needed[cell]) s.fill(cell, cell, 1);
        }
        s.goal(0, 100);
        rowIs("turn first", s, 0, 0, turn + "e");
        s.cost(-2, 3, 7);
        s.cost(-2, 0, 2);
        s.cost(-2, 1, 3);
        effortIs("turn first", s, 0, 0, 9, turn + "e");
    }

    private static void mark(SofaStair s, boolean[] needed) {
        for (int cube = 0; cube < s.told(10); cube++) {
            needed[s.told(20) + 100 * s.cube(0, cube, 0) + 10 * s.cube(0, cube, 1) + s.cube(0, cube, 2)] = true;
        }
    }

    private static void refusals() {
        due.about("promises 15 to 17, refusals");
        SofaStair s = way(3, 3, 1, "000-");
        for (int thing : new int[] {-1, 4, MIN, MAX}) {
            due.is("goes", s.goes(thing, 16, 0, 0), -1);
            due.is("effort", s.effort(thing, 16, 0, 0), -1);
            due.is("room", s.room(thing, 3), -1);
        }
        for (int set : new int[] {-1, 16, MIN, MAX}) {
            due.is("goes", s.goes(0, set, 0, -1), -2);
            due.is("goes", s.goes(0, 0, set, -1), -2);
            due.is("effort", s.effort(0, set, 0, -1), -2);
            due.is("effort", s.effort(0, 0, set, -1), -2);
        }
        due.is("room", s.room(0, 3), -2);
        due.is("room", s.room(0, -1), -2);
        for (int thing = 0; thing < 2; thing++) {
            due.is("goes", s.goes(thing, 0, 0, -1), -3);
            due.is("effort", s.effort(thing, 15, 15, 9), -3);
            for (int what = 0; what < 3; what++) due.is("room", s.room(thing, what), -3);
        }
    }

    private static void comesTo() {
        due.about("promise 17, comes to");
        SofaStair s = way(2, 1, 1, "000-");
        s.lay(0, 0);
        due.is("two cells, all ways", s.room(0, 0), 48);
        s.fill(100, 100, 2);
        due.is("a door", s.room(0, 0), 24);
        s.fill(0, 0, 2);
        due.is("does not fit", s.room(0, 0), 0);

        s = way(4, 1, 1, "000-100-200-");
        s.lay(0, 0);
        due.is("two cells, about x alone", s.room(0, 0), 8);
        s = way(2, 2, 1, "000-100-");
        s.lay(0, 0);
        // flat it can lie 16 ways at the corner, 8 ways beside it along y, 8 along x
        due.is("flat", s.room(0, 0), 32);
        s.fill(10, 10, 1);
        due.is("no room to turn", s.room(0, 0), 4);
    }

    private static void scrapes() {
        due.about("promise 17, scrapes");
        SofaStair s = way(3, 3, 3, "000-");
        s.lay(0, 111);
        due.is("in the middle", s.room(0, 1), 0);
        s.fill(111, 111, 0);
        int[] beside = {11, 211, 101, 121, 112};
        for (int i = 0; i < beside.length; i++) {
            s.fill(beside[i], beside[i], i + 1);
            due.is("one more", s.room(0, 1), i + 1);
        }
        s.fill(110, 110, 1);
        due.is("not below", s.room(0, 1), 5);
        s = way(1, 1, 1, "000-");
        s.lay(0, 0);
        due.is("all but below", s.room(0, 1), 5);
        s = way(3, 3, 2, "000-100a001b");
        s.lay(0, 0);
        // n and w of the corner; n of the second; n, w, u of the upper one
        due.is("a corner", s.room(0, 1), 6);
        s.fill(101, 101, 5);
        due.is("a door in its bend", s.room(0, 1), 8);
        s.fill(0, 101, 1);
        due.is("where it lies are walls", s.room(0, 1), 8);
        s.fill(0, 221, 0);
        Due.say(s, "z");
        s.move(0);
        due.is("turned", s.room(0, 1), 6);
    }

    private static void turnable() {
        due.about("promise 17, turnable");
        SofaStair s = way(3, 3, 1, "000-100-");
        s.lay(0, 0);
        due.is("four", s.room(0, 2), 4);
        s.fill(110, 110, 3);
        due.is("one", s.room(0, 2), 1);
        s.fill(110, 110, 0);
        s.size(3, 3, 2);
        s.lay(0, 0);
        due.is("in both layers", s.room(0, 2), 8);
        Due.say(s, "y");
        s.lay(0, 0);
        due.is("upright", s.room(0, 2), 9);
        s.fill(220, 220, 1);
        due.is("upright but one", s.room(0, 2), 8);

        s = way(2, 2, 1, "000-100-010-");
        s.lay(0, 0);
        due.is("a corner piece", s.room(0, 2), 1);
        s.fill(110, 110, 1);
        due.is("needs all four cells", s.room(0, 2), 0);
    }
}
