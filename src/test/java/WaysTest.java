/** Promises 1 to 10: ways and things; 22 to 24: images and what is told. */
public final class WaysTest {
    private static final Due due = new Due();
    private static final int MIN = Integer.MIN_VALUE, MAX = Integer.MAX_VALUE;

    public static void main(String[] args) {
        aNewObject();
        size();
        fill();
        cell();
        sayAndWipe();
        faultOfThings();
        faultOfRows();
        thing();
        cube();
        cost();
        images();
        imagesOfThings();
        told();
        due.end();
    }

    private static void aNewObject() {
        due.about("promise 1");
        SofaStair s = new SofaStair();
        int free = 0;
        for (int cell = 0; cell < 1000; cell++) free += s.cell(cell) == 0 ? 1 : 0;
        due.is("free cells", free, 72);
        for (int t = 0; t < 4; t++) {
            due.is("cubes", s.told(10 + t), 0);
            due.is("where it lies", s.told(20 + t), -6);
            due.is("goal", s.told(30 + t), 0);
            due.is("cube", s.cube(t, 0, 0), -1);
        }
        due.is("signs", s.told(0), 0);
        SofaStair other = new SofaStair();
        s.fill(0, 0, 1);
        due.is("another object's cell", other.cell(0), 0);
    }

    private static void size() {
        due.about("promise 2");
        SofaStair s = new SofaStair();
        due.is("size(6, 6, 4)", s.size(6, 6, 4), 144);
        due.is("size(1, 1, 1)", s.size(1, 1, 1), 1);
        due.is("size(2, 5, 3)", s.size(2, 5, 3), 30);
        int[][] outside = {{0, 1, 1}, {7, 1, 1}, {1, 0, 1}, {1, 7, 1}, {1, 1, 0}, {1, 1, 5}, {MIN, 1, 1},
            {1, MAX, 1}, {1, 1, -1}};
        for (int[] n : outside) due.is("size outside", s.size(n[0], n[1], n[2]), -2);
        due.is("Y as before", s.told(2), 5);

        s.fill(0, 142, 1);
        s.fill(0, 0, 0);
        Due.say(s, "000-");
        s.thing(1);
        s.lay(1, 0);
        s.goal(1, 142);
        s.cost(1, 2, 7);
        s.cost(-1, 3, 8);
        Due.say(s, "zz");
        due.is("refused", s.size(9, 9, 9), -2);
        due.is("lies still", s.told(21), 0);
        due.is("size(2, 5, 3)", s.size(2, 5, 3), 30);
        due.is("all free", s.cell(142), 0);
        due.is("lies no more", s.told(21), -6);
        due.is("goal", s.told(31), 0);
        due.is("still told", s.told(11), 1);
        due.is("cost as before", s.cost(1, 2, 7), 7);
        due.is("cost as before", s.cost(-1, 3, 8), 8);
        due.is("pad as before", s.told(0), 2);
    }

    private static void fill() {
        due.about("promise 3");
        SofaStair s = new SofaStair();
        s.size(3, 4, 2);
        due.is("all", s.fill(0, 231, 1), 24);
        due.is("one", s.fill(111, 111, 5), 1);
        due.is("a line", s.fill(100, 130, 0), 4);
        due.is("in between", s.cell(120), 0);
        due.is("beside", s.cell(121), 1);
        due.is("the door", s.cell(111), 5);
        due.is("a block", s.fill(110, 221, 2), 8);
        due.is("its corner", s.cell(221), 2);
        due.is("not its corner", s.cell(231), 1);
        int[] noCell = {-1, 300, 40, 2, 1000, MIN, MAX, 2310};
        for (int cell : noCell) {
            due.is("from", s.fill(cell, 231, 9), -1);
            due.is("to", s.fill(0, cell, 1), -1);
        }
        due.is("kind", s.fill(0, 0, 6), -2);
        due.is("kind", s.fill(0, 0, -1), -2);
        due.is("kind", s.fill(0, 0, MAX), -2);
        due.is("x after", s.fill(200, 131, 1), -2);
        due.is("y after", s.fill(20, 211, 1), -2);
        due.is("z after", s.fill(1, 230, 1), -2);
        due.is("unchanged", s.cell(0), 1);
    }

    private static void cell() {
        due.about("promise 4");
        SofaStair s = new SofaStair();
        s.size(2, 3, 4);
        for (int kind = 0; kind < 6; kind++) {
            s.fill(123, 123, kind);
            due.is("kind", s.cell(123), kind);
        }
        int[] noCell = {-1, 200, 30, 4, 124, 133, 223, MIN, MAX, 1123};
        for (int cell : noCell) due.is("cell(" + cell + ")", s.cell(cell), -1);
        due.is("cell(0)", s.cell(0), 0);
    }

    private static void sayAndWipe() {
        due.about("promises 5 and 6");
        SofaStair s = new SofaStair();
        due.is("say(32)", s.say(32), -2);
        due.is("say(127)", s.say(127), -2);
        due.is("say(-1)", s.say(-1), -2);
        due.is("wipe()", s.wipe(), 0);
        due.is("say(33)", s.say(33), 1);
        due.is("say(126)", s.say(126), 2);
        due.is("wipe()", s.wipe(), 2);
        for (int i = 1; i <= 60; i++) due.is("say", s.say(33 + i), i);
        due.is("a sign too many", s.say(48), -4);
        due.is("not a sign, too", s.say(MAX), -2);
        due.is("told(0)", s.told(0), 60);
        due.is("wipe()", s.wipe(), 60);
        due.is("wipe()", s.wipe(), 0);
        due.is("say(48)", s.say(48), 1);
    }

    private static int fault(int how, String text) {
        SofaStair s = new SofaStair();
        Due.say(s, text);
        return s.fault(how);
    }

    private static void faultOfThings() {
        due.about("promise 7, things");
        String[] texts = {"", "0", "00", "000", "000-", "000-1", "100-", "010-", "001-", "100-010-001-", "100-110-",
            "000-333d", "000a", "000-000-", "000-001-000-", "0-", "004-", "040-", "400-", "000e", "000-010b010c",
            "000-0:", "000-03/", "101-0112", "111-222-333d"};
        int[] faults = {0, 1, 2, 3, -6, 5, 4, 4, 4, -6, 8, -6, 3, 6, 10, 1, 2, 1, 0, 3, 10, 5, 6, 7, 12};
        for (int i = 0; i < texts.length; i++) due.is(texts[i], fault(0, texts[i]), faults[i]);

        for (char sign = 33; sign <= 126; sign++) {
            boolean digit = sign >= '0' && sign <= '3', part = sign == '-' || sign >= 'a' && sign <= 'd';
            due.is("first digit " + sign, fault(0, "" + sign), digit ? 1 : 0);
            due.is("second digit " + sign, fault(0, "0" + sign), digit ? 2 : 1);
            due.is("third digit " + sign, fault(0, "00" + sign), digit ? 3 : 2);
            due.is("body alone " + sign, fault(0, "000" + sign), sign == '-' ? -6 : 3);
            due.is("a part " + sign, fault(0, "000-001" + sign), part ? -6 : 7);
        }
        String ten = "000-001-002-003-010-011-012-013-020-021-";
        due.is("ten", fault(0, ten), -6);
        due.is("a digit more", fault(0, ten + "0"), 40);
        due.is("another sign more", fault(0, ten + "!000-"), 40);
        due.is("ten, the least x is 1", fault(0, "100-101-102-103-110-111-112-113-120-121-"), 40);

        SofaStair s = new SofaStair();
        due.is("fault(-1)", s.fault(-1), -2);
        due.is("fault(2)", s.fault(2), -2);
        due.is("fault", s.fault(MIN), -2);
    }

    private static void faultOfRows() {
        due.about("promise 7, rows");
        due.is("none", fault(1, ""), -6);
        due.is("all", fault(1, "nsweuvxyzXYZ"), -6);
        due.is("a wrong one", fault(1, "nsweuvxyzXYZa"), 12);
        due.is("a wrong one", fault(1, "n-s"), 1);
        String forty = "nsweuvxyzXnsweuvxyzXnsweuvxyzXnsweuvxyzX";
        due.is("forty", fault(1, forty), -6);
        due.is("forty-one", fault(1, forty + "n"), 40);
        due.is("a wrong one before", fault(1, "?" + forty), 0);
        for (char sign = 33; sign <= 126; sign++) {
            due.is("sign " + sign, fault(1, "n" + sign), "nsweuvxyzXYZ".indexOf(sign) >= 0 ? -6 : 1);
        }
    }

    private static void thing() {
        due.about("promise 8");
        SofaStair s = new SofaStair();
        Due.say(s, "000-110a");
        due.is("thing(-1)", s.thing(-1), -1);
        due.is("thing(4)", s.thing(4), -1);
        due.is("thing(3)", s.thing(3), 2);
        due.is("pad", s.told(0), 0);
        due.is("cubes", s.told(13), 2);
        due.is("nothing on the pad", s.thing(3), -5);
        s.lay(3, 0);
        s.goal(3, 110);
        s.cost(3, 0, 9);
        Due.say(s, "000-1");
        due.is("a fault", s.thing(3), -5);
        due.is("pad as before", s.told(0), 5);
        due.is("lies still", s.told(23), 0);
        due.is("cubes as before", s.told(13), 2);
        Due.say(s, "00-200-");
        due.is("told again", s.thing(3), 3);
        due.is("lies no more", s.told(23), -6);
        due.is("goal as before", s.told(33), 110);
        due.is("cost as before", s.cost(3, 0, 1), 9);
        due.is("its part", s.cube(3, 1, 3), -6);
    }

    private static void cube() {
        due.about("promise 9");
        SofaStair s = new SofaStair();
        s.size(6, 6, 4);
        Due.say(s, "000-100a200b210c101d");
        s.thing(0);
        int[][] told = {{0, 0, 0, -6}, {1, 0, 0, 0}, {2, 0, 0, 1}, {2, 1, 0, 2}, {1, 0, 1, 3}};
        looksLike(s, told);
        turnsTo(s, "z", new int[][] {{1, 0, 0, -6}, {1, 1, 0, 0}, {1, 2, 0, 1}, {0, 2, 0, 2}, {1, 1, 1, 3}});
        turnsTo(s, "x", new int[][] {{0, 1, 0, -6}, {1, 1, 0, 0}, {2, 1, 0, 1}, {2, 1, 1, 2}, {1, 0, 0, 3}});
        turnsTo(s, "y", new int[][] {{0, 0, 2, -6}, {0, 0, 1, 0}, {0, 0, 0, 1}, {0, 1, 0, 2}, {1, 0, 1, 3}});
        turnsTo(s, "Z", new int[][] {{0, 2, 0, -6}, {0, 1, 0, 0}, {0, 0, 0, 1}, {1, 0, 0, 2}, {0, 1, 1, 3}});
        turnsTo(s, "X", new int[][] {{0, 0, 1, -6}, {1, 0, 1, 0}, {2, 0, 1, 1}, {2, 0, 0, 2}, {1, 1, 1, 3}});
        turnsTo(s, "Y", new int[][] {{1, 0, 0, -6}, {1, 0, 1, 0}, {1, 0, 2, 1}, {1, 1, 2, 2}, {0, 0, 1, 3}});
        for (String none : new String[] {"xX", "Yy", "zZ", "xxxx", "yyyy", "ZZZZ", "xyzZYX", ""}) turnsTo(s, none, told);
        turnsTo(s, "zz", new int[][] {{2, 1, 0, -6}, {1, 1, 0, 0}, {0, 1, 0, 1}, {0, 0, 0, 2}, {1, 1, 1, 3}});
        turnsTo(s, "xz", new int[][] {{0, 0, 0, -6}, {0, 1, 0, 0}, {0, 2, 0, 1}, {0, 2, 1, 2}, {1, 1, 0, 3}});
        s.size(6, 6, 4);
        looksLike(s, told);
        due.is("thing -1", s.cube(-1, 0, 0), -1);
        due.is("thing 4", s.cube(4, 0, 0), -1);
        due.is("not told", s.cube(1, 0, 0), -1);
        due.is("cube -1", s.cube(0, -1, 9), -1);
        due.is("cube 5", s.cube(0, 5, 0), -1);
        due.is("what 4", s.cube(0, 0, 4), -2);
        due.is("what -1", s.cube(0, 0, -1), -2);
    }

    private static void turnsTo(SofaStair s, String row, int[][] want) {
        Due.say(s, row);
        due.is("lay by " + row, s.lay(0, 0), 1);
        looksLike(s, want);
    }

    private static void looksLike(SofaStair s, int[][] want) {
        for (int cube = 0; cube < want.length; cube++) {
            for (int what = 0; what < 4; what++) {
                due.is("cube(0, " + cube + ", " + what + ")", s.cube(0, cube, what), want[cube][what]);
            }
        }
    }

    private static void cost() {
        due.about("promise 10");
        SofaStair s = new SofaStair();
        for (int thing = -2; thing < 4; thing++) {
            for (int which = 0; which < 4; which++) {
                due.is("at first", s.cost(thing, which, (thing + which + 2) % 10), 1);
            }
        }
        for (int thing = -2; thing < 4; thing++) {
            for (int which = 0; which < 4; which++) {
                due.is("which it was", s.cost(thing, which, 9), (thing + which + 2) % 10);
                due.is("nine", s.cost(thing, which, 0), 9);
                due.is("ten", s.cost(thing, which, 10), -2);
                due.is("below 0", s.cost(thing, which, -1), -2);
                due.is("unchanged", s.cost(thing, which, 0), 0);
            }
            due.is("which 4", s.cost(thing, 4, 1), -2);
            due.is("which -1", s.cost(thing, -1, 1), -2);
            due.is("which", s.cost(thing, MAX, 1), -2);
        }
        due.is("thing -3", s.cost(-3, 9, 99), -1);
        due.is("thing 4", s.cost(4, 0, 1), -1);
        due.is("thing", s.cost(MIN, 0, 1), -1);
    }

    private static void images() {
        due.about("promises 22 and 23");
        SofaStair s = new SofaStair();
        for (int n : new int[] {-1, 2, MIN, MAX}) {
            due.is("image", s.image(n), -2);
            due.is("restore", s.restore(n), -2);
        }
        due.is("restore(0)", s.restore(0), -3);
        due.is("restore(1)", s.restore(1), -3);
        s.size(3, 3, 2);
        s.fill(200, 200, 3);
        Due.say(s, "000-100a");
        s.thing(2);
        Due.say(s, "z");
        s.lay(2, 10);
        s.goal(2, 110);
        s.cost(2, 0, 4);
        s.cost(-1, 1, 5);
        s.cost(-2, 2, 6);
        Due.say(s, "xyz");
        due.is("image(0)", s.image(0), 1);
        due.is("image(0)", s.told(0), 3);
        due.is("not kept", s.restore(1), -3);
        int goes = s.goes(2, 0, 0, -1);

        s.wipe();
        s.size(2, 2, 1);
        Due.say(s, "000-");
        s.thing(2);
        s.lay(2, 0);
        s.cost(2, 0, 0);
        s.cost(-1, 1, 0);
        s.cost(-2, 2, 0);
        due.is("image(1)", s.image(1), 1);
        due.is("goes", s.goes(2, 0, 0, -1), 0);
        Due.say(s, "nn");
        due.is("restore(0)", s.restore(0), 1);
        due.is("pad stays", s.told(0), 2);
        due.is("X", s.told(1), 3);
        due.is("Z", s.told(3), 2);
        due.is("kind", s.cell(200), 3);
        due.is("cubes", s.told(12), 2);
        due.is("part", s.cube(2, 1, 3), 0);
        due.is("turned", s.cube(2, 1, 1), 1);
        due.is("lies", s.told(22), 10);
        due.is("goal", s.told(32), 110);
        due.is("goes", s.goes(2, 0, 0, -1), goes);
        due.is("cost of a part", s.cost(2, 0, 7), 4);
        due.is("cost of a door", s.cost(-1, 1, 7), 5);
        due.is("cost of a move", s.cost(-2, 2, 7), 6);
        due.is("restore(0) again", s.restore(0), 1);
        due.is("the image is as it was", s.cost(2, 0, 4), 4);
        due.is("restore(1)", s.restore(1), 1);
        due.is("X", s.told(1), 2);
        due.is("cubes", s.told(12), 1);
        due.is("lies", s.told(22), 0);
        due.is("cost of a door", s.cost(-1, 1, 7), 0);
        due.is("image(1) anew", s.image(1), 1);
        due.is("restore(1)", s.restore(1), 1);
        due.is("cost of a door", s.cost(-1, 1, 7), 7);
    }

    private static void imagesOfThings() {
        due.about("promise 23, all that is of things");
        SofaStair s = new SofaStair();
        s.size(6, 6, 4);
        String[] before = {"000-110a221b", "000-", "000-100-", "000-003d"};
        String[] after = {"000-", "000-010c200d103-", "000-002b", "000-300c"};
        for (int t = 0; t < 4; t++) {
            Due.say(s, before[t]);
            s.thing(t);
            Due.say(s, "Z");
            due.is("lies", s.lay(t, 100 * t), 1);
            s.goal(t, 10 * t + 1);
            s.cost(t, t, 5 + t);
        }
        int[] was = all(s);
        s.image(1);
        for (int t = 0; t < 4; t++) {
            Due.say(s, after[t]);
            s.thing(t);
            s.goal(t, 0);
            s.cost(t, t, 0);
        }
        s.restore(1);
        int[] is = all(s);
        for (int i = 0; i < was.length; i++) due.is("answer " + i, is[i], was[i]);
    }

    /** All that can be asked of THINGS without a change. */
    private static int[] all(SofaStair s) {
        int[] all = new int[4 * 3 * 4 + 4 * 5];
        int n = 0;
        for (int t = 0; t < 4; t++) {
            for (int cube = 0; cube < 3; cube++) {
                for (int what = 0; what < 4; what++) all[n++] = s.cube(t, cube, what);
            }
            for (int what = 10; what < 40; what += 10) all[n++] = s.told(what + t);
            all[n++] = s.cost(t, t, 5 + t);
            all[n++] = s.room(t, 0);
        }
        return all;
    }

    private static void told() {
        due.about("promise 24");
        SofaStair s = new SofaStair();
        s.size(5, 4, 3);
        Due.say(s, "000-100-");
        s.thing(1);
        Due.say(s, "000-");
        s.thing(3);
        Due.say(s, "z");
        s.lay(1, 421);
        s.lay(3, 132);
        s.goal(0, 432);
        s.goal(3, 12);
        Due.say(s, "abc");
        int[] what = {0, 1, 2, 3, 10, 11, 12, 13, 20, 21, 22, 23, 30, 31, 32, 33};
        int[] want = {3, 5, 4, 3, 0, 2, 0, 1, -6, 421, -6, 132, 432, 0, 0, 12};
        for (int i = 0; i < what.length; i++) due.is("told(" + what[i] + ")", s.told(what[i]), want[i]);
        for (int other : new int[] {-1, 4, 9, 14, 19, 24, 29, 34, 40, 43, 110, -10, MIN, MAX}) {
            due.is("told(" + other + ")", s.told(other), -2);
        }
    }
}
