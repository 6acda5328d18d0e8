/** Promises 18 to 21: what must come off, bars, orders, how it came in. */
public final class ComingOffTest {
    private static final Due due = new Due();
    private static final int MIN = Integer.MIN_VALUE, MAX = Integer.MAX_VALUE;

    public static void main(String[] args) {
        least();
        leastOfEqualCosts();
        leastOfAll();
        bar();
        barsTurn();
        order();
        orderOfFour();
        came();
        afterChanges();
        questionAfterQuestion();
        refusals();
        due.end();
    }

    private static SofaStair way(int x, int y, int z, String thing) {
        SofaStair s = new SofaStair();
        s.size(x, y, z);
        tell(s, 0, thing);
        return s;
    }

    private static void tell(SofaStair s, int thing, String text) {
        Due.say(s, text);
        s.thing(thing);
    }

    private static void leastIs(String what, SofaStair s, int cost, int parts, int doors) {
        due.is(what + " cost", s.least(0, 0), cost);
        due.is(what + " parts", s.least(0, 1), parts);
        due.is(what + " doors", s.least(0, 2), doors);
    }

    private static void least() {
        due.about("promise 18");
        SofaStair s = way(4, 1, 1, "000-100c");
        s.lay(0, 0);
        leastIs("there already", s, 0, 0, 0);
        s.goal(0, 200);
        leastIs("nothing", s, 0, 0, 0);
        s.goal(0, 300);
        leastIs("a part", s, 1, 4, 0);
        s.cost(0, 2, 6);
        leastIs("a dear part", s, 6, 4, 0);
        s.fill(200, 200, 3);
        leastIs("a door, too", s, 7, 4, 2);
        s.cost(-1, 1, 0);
        leastIs("a door for nothing", s, 6, 4, 2);
        s.fill(300, 300, 5);
        leastIs("two doors", s, 7, 4, 10);
        s.fill(0, 0, 2);
        leastIs("the door where it lies", s, 8, 4, 11);
        s.fill(300, 300, 1);
        leastIs("a wall", s, -6, -6, -6);
    }

    private static void leastOfEqualCosts() {
        due.about("promise 18, equal costs");
        SofaStair s = way(2, 2, 1, "000-010a");
        s.lay(0, 0);
        s.goal(0, 100);
        s.fill(110, 110, 5);
        leastIs("the door before the part", s, 1, 0, 8);
        s.cost(-1, 3, 2);
        leastIs("the part is less", s, 1, 1, 0);
        s.cost(0, 0, 2);
        leastIs("equal again", s, 2, 0, 8);
        s.cost(0, 0, 0);
        s.cost(-1, 3, 0);
        leastIs("both for nothing", s, 0, 0, 8);

        s = way(3, 2, 1, "000-");
        s.lay(0, 0);
        s.goal(0, 200);
        s.fill(100, 100, 4);
        s.fill(110, 110, 3);
        leastIs("the first door of two", s, 1, 0, 2);
        s.cost(-1, 1, 2);
        leastIs("the other one", s, 1, 0, 4);
        s.fill(110, 110, 1);
        for (int door = 0; door < 4; door++) s.cost(-1, door, 0);
        leastIs("no door for nothing that is not needed", s, 0, 0, 4);

        // two doors of 1 each, or one of 2
        s = way(4, 2, 1, "000-");
        s.lay(0, 0);
        s.goal(0, 300);
        s.fill(100, 100, 4);
        s.fill(200, 200, 5);
        s.fill(110, 210, 2);
        s.cost(-1, 0, 2);
        leastIs("equal: door 0 is less than doors 2 and 3", s, 2, 0, 1);
        s.cost(-1, 0, 3);
        leastIs("two of 1", s, 2, 0, 12);
    }

    private static void leastOfAll() {
        due.about("promise 18, all off");
        SofaStair s = way(6, 1, 1, "000-001a002b003c010d");
        s.size(6, 2, 4);
        s.lay(0, 0);
        s.size(6, 2, 4);
        s.fill(500, 513, 1);
        s.fill(100, 100, 2);
        s.fill(200, 200, 3);
        s.fill(300, 300, 4);
        s.fill(400, 400, 5);
        s.fill(1, 403, 1);
        s.fill(10, 413, 1);
        due.is("no room to lie", s.lay(0, 0), -5);
        s.fill(0, 13, 0);
        due.is("room to lie", s.lay(0, 0), 1);
        s.goal(0, 400);
        leastIs("all", s, 8, 15, 15);
        for (int i = 0; i < 4; i++) {
            s.cost(0, i, 9);
            s.cost(-1, i, 9);
        }
        leastIs("all, at most", s, 72, 15, 15);
        s.goal(0, 500);
        leastIs("not even then", s, -6, -6, -6);
    }

    private static void bar() {
        due.about("promise 19");
        SofaStair s = way(6, 6, 1, "000-");
        due.is("does not lie", s.bar(0), -3);
        s.lay(0, 0);
        due.is("six", s.bar(0), 6);
        s.fill(500, 500, 3);
        due.is("six along y", s.bar(0), 6);
        s.fill(50, 50, 2);
        due.is("five", s.bar(0), 5);
        due.is("door 0 off", s.bar(1), 6);
        due.is("door 1 off", s.bar(2), 6);
        due.is("door 2 off", s.bar(4), 5);
        s.goal(0, 110);
        due.is("to the middle", s.bar(0), 5);
        s.goal(0, 440);
        due.is("near the end", s.bar(0), 2);
        s.fill(550, 550, 1);
        due.is("a wall at the end", s.bar(0), 2);
        s.goal(0, 540);
        due.is("one cell is left", s.bar(0), 1);
        s.fill(540, 540, 1);
        due.is("none goes", s.bar(0), -6);
        s.goal(0, 0);
        s.fill(0, 0, 1);
        due.is("none fits", s.bar(15), -6);

        s = way(1, 1, 4, "000-");
        s.lay(0, 0);
        due.is("along z", s.bar(0), 4);
        s.goal(0, 2);
        due.is("lifted", s.bar(0), 2);
        for (int set : new int[] {-1, 16, MIN, MAX}) due.is("set", s.bar(set), -2);
        s.size(1, 1, 4);
        due.is("set, does not lie", s.bar(16), -2);
        due.is("does not lie", s.bar(15), -3);
    }

    private static void barsTurn() {
        due.about("promise 19, how bars turn");
        // a corridor along x, a corridor along y from its end, and one cell more for turning
        SofaStair s = way(4, 4, 1, "000-");
        s.fill(10, 230, 1);
        s.lay(0, 0);
        s.goal(0, 320);
        due.is("no room to turn", s.bar(0), 1);
        s.fill(210, 210, 0);
        due.is("room for two", s.bar(0), 2);
        s.goal(0, 310);
        due.is("still two", s.bar(0), 2);
        s.fill(220, 220, 5);
        due.is("a door in the way of three", s.bar(0), 2);
        due.is("three, but no room at the end of x", s.bar(8), 2);
        // THING 0 is larger than what is asked, and lies turned: the bar is laid along x all the same
        s = way(4, 1, 1, "000-100-");
        s.lay(0, 0);
        s.goal(0, 100);
        due.is("three", s.bar(0), 3);
    }

    private static void orderIs(String what, SofaStair s, int set, int... things) {
        for (int i = 0; i < things.length; i++) due.is(what + " " + i, s.order(set, i), things[i]);
        due.is(what + " behind", s.order(set, things.length), -6);
        due.is(what + " -1", s.order(set, -1), -6);
        due.is(what + " far", s.order(set, MAX), -6);
        due.is(what + " far", s.order(set, MIN), -6);
    }

    private static void order() {
        due.about("promise 20");
        SofaStair s = way(4, 1, 1, "000-");
        s.lay(0, 0);
        s.goal(0, 300);
        tell(s, 2, "000-");
        s.lay(2, 100);
        s.goal(2, 300);
        orderIs("one in the way of the other", s, 5, 2, 0);
        orderIs("one alone", s, 1, 0);
        orderIs("the other alone", s, 4, 2);
        s.goal(2, 0);
        orderIs("each in the way of the other", s, 5);
        due.is("does not lie", s.order(2, 0), -3);
        due.is("does not lie", s.order(15, -1), -3);
        s.goal(2, 100);
        orderIs("the first by numbers is in the way", s, 5, 2, 0);
        s.goal(0, 0);
        orderIs("both can", s, 5, 0, 2);
        tell(s, 1, "000-");
        s.lay(1, 0);
        orderIs("two in one cell", s, 3);
        orderIs("another one and that", s, 6, 1, 2);
        s.fill(300, 300, 2);
        s.goal(2, 300);
        orderIs("doors are on", s, 4);
        s.fill(100, 100, 1);
        s.goal(2, 100);
        orderIs("where it lies is a wall", s, 4);
        for (int set : new int[] {0, -1, 16, MIN, MAX}) due.is("set", s.order(set, 0), -2);
    }

    private static void orderOfFour() {
        due.about("promise 20, four");
        SofaStair s = way(6, 1, 1, "000-");
        int[] at = {100, 300, 0, 200};
        for (int t = 0; t < 4; t++) {
            tell(s, t, "000-");
            s.lay(t, at[t]);
            s.goal(t, 500);
        }
        orderIs("four", s, 15, 1, 3, 0, 2);
        orderIs("three", s, 13, 3, 0, 2);
        s.goal(2, 0);
        orderIs("the last by place first", s, 15, 1, 2, 3, 0);
        s.goal(1, 0);
        orderIs("each in the way of the other, and one that is not", s, 11);
        s = way(3, 1, 1, "000-100a");
        s.lay(0, 0);
        s.goal(0, 200);
        orderIs("parts are on", s, 1);
        s.goal(0, 100);
        orderIs("and it goes with them", s, 1, 0);
        tell(s, 3, "000-");
        s.lay(3, 100);
        s.goal(3, 200);
        orderIs("a part of one lies in the other", s, 9);
        s.lay(3, 200);
        s.goal(3, 0);
        orderIs("a part is as walls, too", s, 9);
        s.goal(0, 0);
        orderIs("it stays where the other wants to go, and is gone then", s, 9, 0, 3);
        // turned and long: the whole of it is as walls
        s = way(3, 3, 1, "000-100-200-");
        Due.say(s, "z");
        s.lay(0, 100);
        s.goal(0, 100);
        tell(s, 1, "000-");
        s.lay(1, 20);
        s.goal(1, 220);
        orderIs("behind a long one", s, 3, 0, 1);
        s.goal(0, 0);
        orderIs("in each other's way", s, 3);
    }

    private static void came() {
        due.about("promise 21");
        SofaStair s = way(3, 2, 1, "000-");
        s.lay(0, 0);
        s.goal(0, 200);
        due.is("with any", s.came(0, 0), 16);
        due.is("none in each", s.came(0, 1), 0);
        s.fill(100, 110, 2);
        due.is("half", s.came(0, 0), 8);
        due.is("door 0", s.came(0, 1), 1);
        s.fill(110, 110, 5);
        due.is("one of two", s.came(0, 0), 12);
        due.is("neither in each", s.came(0, 1), 0);
        s.fill(200, 200, 4);
        due.is("and that of the goal", s.came(0, 0), 6);
        due.is("that of the goal", s.came(0, 1), 4);
        s.fill(0, 0, 3);
        s.fill(110, 110, 1);
        due.is("one set and what is not in the way", s.came(0, 0), 2);
        due.is("three doors", s.came(0, 1), 7);
        s.fill(10, 110, 5);
        s.fill(0, 0, 1);
        due.is("no set", s.came(0, 0), 0);
        due.is("no set", s.came(0, 1), -6);
        s = way(5, 1, 1, "000-");
        s.lay(0, 0);
        s.goal(0, 400);
        for (int door = 0; door < 4; door++) s.fill(100 + 100 * door, 100 + 100 * door, 2 + door);
        due.is("all must be off", s.came(0, 0), 1);
        due.is("all must be off", s.came(0, 1), 15);
        // parts are on
        s = way(2, 1, 1, "000-100a");
        s.lay(0, 0);
        s.goal(0, 100);
        due.is("the part is beyond", s.came(0, 0), 0);
    }

    /** An answer that was kept for the next call does not outlive what it came from. */
    private static void afterChanges() {
        due.about("promises 15 to 21, after changes");
        SofaStair s = way(4, 1, 1, "000-100a");
        s.lay(0, 0);
        s.goal(0, 300);
        due.is("least", s.least(0, 0), 1);
        s.cost(0, 0, 5);
        due.is("least after cost", s.least(0, 0), 5);
        due.is("goes", s.goes(0, 1, 0, -1), 3);
        s.goal(0, 200);
        due.is("goes after goal", s.goes(0, 1, 0, -1), 2);
        Due.say(s, "e");
        s.move(0);
        due.is("goes after move", s.goes(0, 1, 0, -1), 1);
        due.is("effort", s.effort(0, 1, 0, -1), 1);
        s.cost(-2, 0, 3);
        due.is("effort after cost", s.effort(0, 1, 0, -1), 3);
        s.image(0);
        s.lay(0, 0);
        due.is("effort after lay", s.effort(0, 1, 0, -1), 6);
        due.is("came", s.came(0, 0), 16);
        s.fill(200, 200, 2);
        due.is("came after fill", s.came(0, 0), 8);
        due.is("bar", s.bar(1), 2);
        s.fill(300, 300, 1);
        due.is("bar after fill", s.bar(1), 1);
        due.is("order", s.order(1, 0), -6);
        s.restore(0);
        due.is("order after restore", s.order(1, 0), 0);
        due.is("room", s.room(0, 0), 12);
        tell(s, 0, "000-");
        s.lay(0, 100);
        due.is("room after another thing", s.room(0, 0), 96);
        s.size(2, 1, 1);
        s.lay(0, 100);
        due.is("room after size", s.room(0, 0), 48);
        s.fill(0, 0, 1);
        due.is("room after fill", s.room(0, 0), 24);
        s.size(3, 1, 1);
        s.lay(0, 100);
        due.is("room after size", s.room(0, 0), 72);
        due.is("goes after size", s.goes(0, 0, 0, -1), 1);
    }

    /** Each question after each other one: what was kept of the one is not told for the other. */
    private static void questionAfterQuestion() {
        due.about("promises 15 to 21, question after question");
        for (int one = 0; one < QUESTIONS; one++) {
            for (int other = 0; other < QUESTIONS; other++) {
                SofaStair s = manyThings();
                int fresh = ask(s, other);
                s = manyThings();
                ask(s, one);
                due.is("question " + other + " after " + one, ask(s, other), fresh);
            }
        }
    }

    private static final int QUESTIONS = 36;

    private static SofaStair manyThings() {
        SofaStair s = way(4, 3, 1, "000-100a");
        s.lay(0, 0);
        s.goal(0, 120);
        tell(s, 1, "000-010b");
        s.lay(1, 300);
        s.goal(1, 310);
        tell(s, 2, "000-");
        s.lay(2, 220);
        s.goal(2, 20);
        tell(s, 3, "000-100a010b");
        s.lay(3, 100);
        s.goal(3, 210);
        s.fill(110, 110, 2);
        s.fill(20, 20, 3);
        s.cost(-2, 0, 3);
        s.cost(-1, 0, 5);
        s.cost(-1, 1, 4);
        s.cost(0, 0, 6);
        return s;
    }

    private static int ask(SofaStair s, int question) {
        int n = question % 4;
        switch (question / 4) {
            case 0: return s.goes(n, 0, 0, -1);
            case 1: return s.goes(0, n, 0, -1);
            case 2: return s.goes(3, 3, n, -1);
            case 3: return s.effort(n, 0, 0, -1);
            case 4: return s.effort(3, 0, n, -1);
            case 5: return s.least(n, 0);
            case 6: return s.bar(n);
            case 7: return s.order(1 << n, 0);
            default: return s.came(n, 0);
        }
    }

    private static void refusals() {
        due.about("promises 18 and 21, refusals");
        SofaStair s = way(3, 3, 1, "000-");
        for (int thing : new int[] {-1, 4, MIN, MAX}) {
            due.is("least", s.least(thing, 3), -1);
            due.is("came", s.came(thing, 2), -1);
        }
        for (int thing = 0; thing < 2; thing++) {
            due.is("least", s.least(thing, 3), -2);
            due.is("least", s.least(thing, -1), -2);
            due.is("came", s.came(thing, 2), -2);
            due.is("came", s.came(thing, -1), -2);
            for (int what = 0; what < 3; what++) due.is("least", s.least(thing, what), -3);
            for (int what = 0; what < 2; what++) due.is("came", s.came(thing, what), -3);
        }
    }
}
