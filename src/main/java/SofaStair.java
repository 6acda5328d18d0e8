import java.util.Arrays;

/**
 * A sofa up a stair: a way of cells, things of cubes that are told as texts, and how they go.
 * The words are those of ../shared/DOC.md: CELL, THING, CUBE, PART, ROW, TURN, STAND, GOAL.
 */
public final class SofaStair {
    public static final int UNKNOWN = -1, OUTSIDE = -2, STATE = -3, FULL = -4, NO = -5, NONE = -6;

    private static final int THINGS = 4, IMAGES = 2, DOORS = 4, PARTS = 4, COSTS = 4, MOST_COST = 9;
    private static final int MOST_X = 6, MOST_Y = 6, MOST_Z = 4, PLACES = MOST_X * MOST_Y * MOST_Z;
    private static final int WAYS = 24, STANDS = PLACES * WAYS;
    private static final int PAD_SIGNS = 60, FIRST_SIGN = 33, LAST_SIGN = 126;
    private static final int MOST_CUBES = 10, CUBE_SIGNS = 4, ROW_SIGNS = 40, LAST_DIGIT = 3;
    private static final int WALL = 1, FIRST_DOOR = 2, KINDS = 6;
    private static final int SETS = 16, LONGEST_BAR = 6;

    /** The signs of MOVES in the order that tells which ROW is the first. */
    private static final String MOVES = "nsweuvxyzXYZ";
    private static final int ALL_MOVES = 12, FIRST_TURN = 6, TURNS = 6, LIFT = 4, LET_DOWN = 5;
    private static final int TURN_Y = 1, TURN_Z = 2;

    /** What a search was last asked for; with the numbers of the call it makes the key of an answer. */
    private static final int GOES = 1, EFFORT = 2, LEAST = 3, BAR = 4, ORDER = 5, CAME = 6;

    private final Pad pad = new Pad();
    private final Stair now = new Stair();
    private final Stair[] images = new Stair[IMAGES];
    private final Turns turns = new Turns();
    private final Search search = new Search(turns, now.way);
    private final Cheapest cheapest = new Cheapest(search);
    private final Answer answer = new Answer();
    private final Thing rod = new Thing();
    private final int[] setCosts = new int[SETS * SETS];

    public SofaStair() {
        for (int n = 0; n < IMAGES; n++) {
            images[n] = new Stair();
        }
    }

    // ---- 1 ways, things

    public int size(int x, int y, int z) {
        if (x < 1 || x > MOST_X || y < 1 || y > MOST_Y || z < 1 || z > MOST_Z) {
            return OUTSIDE;
        }
        now.way.resize(x, y, z);
        for (int thing = 0; thing < THINGS; thing++) {
            Thing it = now.thingAt(thing);
            if (it != null) {
                it.place = NONE;
                it.goal = 0;
            }
        }
        forgetWay();
        return x * y * z;
    }

    public int fill(int from, int to, int kind) {
        int first = now.way.placeOf(from);
        int last = now.way.placeOf(to);
        if (first < 0 || last < 0) {
            return UNKNOWN;
        }
        boolean ahead = xOf(first) <= xOf(last) && yOf(first) <= yOf(last) && zOf(first) <= zOf(last);
        if (kind < 0 || kind >= KINDS || !ahead) {
            return OUTSIDE;
        }
        forgetWay();
        return now.way.paint(first, last, kind);
    }

    public int cell(int cell) {
        int place = now.way.placeOf(cell);
        return place < 0 ? UNKNOWN : now.way.kindAt(place);
    }

    public int say(int sign) {
        if (sign < FIRST_SIGN || sign > LAST_SIGN) {
            return OUTSIDE;
        }
        return pad.isFull() ? FULL : pad.add(sign);
    }

    public int wipe() {
        return pad.clear();
    }

    public int fault(int how) {
        if (!isUpTo(how, 1)) {
            return OUTSIDE;
        }
        return how == 0 ? pad.thingFault() : pad.rowFault();
    }

    public int thing(int thing) {
        Thing it = now.thingAt(thing);
        if (it == null) {
            return UNKNOWN;
        }
        if (pad.thingFault() != NONE) {
            return NO;
        }
        it.tell(pad);
        pad.clear();
        forgetWay();
        return it.cubes;
    }

    public int cube(int thing, int cube, int what) {
        Thing it = now.thingAt(thing);
        if (it == null || cube < 0 || cube >= it.cubes) {
            return UNKNOWN;
        }
        if (!isUpTo(what, 3)) {
            return OUTSIDE;
        }
        if (what == 3) {
            int group = it.groupOf(cube);
            return group == 0 ? NONE : group - 1;
        }
        return it.along(turns, it.place < 0 ? 0 : it.turned, cube, what);
    }

    public int cost(int thing, int which, int v) {
        int[] costs = now.costsOf(thing);
        if (costs == null) {
            return UNKNOWN;
        }
        if (which < 0 || which >= costs.length || v < 0 || v > MOST_COST) {
            return OUTSIDE;
        }
        int before = costs[which];
        costs[which] = v;
        answer.forget();
        return before;
    }

    // ---- 2 lying, going

    public int lay(int thing, int cell) {
        Thing it = now.thingAt(thing);
        int place = now.way.placeOf(cell);
        if (it == null || place < 0) {
            return UNKNOWN;
        }
        if (it.cubes == 0) {
            return STATE;
        }
        int turned = pad.rowFault() == NONE ? turnedByPad() : NO;
        if (turned < 0) {
            return NO;
        }
        search.about(it);
        if (search.why(place * WAYS + turned) != 0) {
            return NO;
        }
        it.place = place;
        it.turned = turned;
        pad.clear();
        answer.forget();
        return 1;
    }

    public int goal(int thing, int cell) {
        Thing it = now.thingAt(thing);
        int place = now.way.placeOf(cell);
        if (it == null || place < 0) {
            return UNKNOWN;
        }
        int before = it.goal;
        it.goal = place;
        answer.forget();
        return cellOf(before);
    }

    public int judge(int thing, int what) {
        Thing it = now.thingAt(thing);
        int refusal = refusalOf(it, isUpTo(what, 1));
        if (it == null || refusal != 0) {
            return refusal;
        }
        return pad.rowFault() == NONE ? judged(it, what) : NO;
    }

    public int move(int thing) {
        Thing it = now.thingAt(thing);
        int refusal = refusalOf(it, true);
        if (it == null || refusal != 0) {
            return refusal;
        }
        if (pad.rowFault() != NONE || judged(it, 0) != NONE) {
            return NO;
        }
        int stand = it.stand();
        for (int i = 0; i < pad.count; i++) {
            stand = search.step(stand, pad.moveAt(i));
        }
        it.place = stand / WAYS;
        it.turned = stand % WAYS;
        pad.clear();
        answer.forget();
        return cellOf(it.place);
    }

    public int goes(int thing, int parts, int doors, int i) {
        return rowAnswer(GOES, thing, parts, doors, i);
    }

    public int effort(int thing, int parts, int doors, int i) {
        return rowAnswer(EFFORT, thing, parts, doors, i);
    }

    public int room(int thing, int what) {
        Thing it = now.thingAt(thing);
        int refusal = refusalOf(it, isUpTo(what, 2));
        if (it == null || refusal != 0) {
            return refusal;
        }
        if (what == 1) {
            return scrapes(it);
        }
        search.about(it);
        search.off(0, 0);
        if (what == 2) {
            return turnable(it);
        }
        search.flood(it.stand(), NONE);
        return search.reached;
    }

    // ---- 3 what must come off, bars, orders

    public int least(int thing, int what) {
        Thing it = now.thingAt(thing);
        int refusal = refusalOf(it, isUpTo(what, 2));
        if (it == null || refusal != 0) {
            return refusal;
        }
        if (answer.isNew(LEAST, thing, 0, 0)) {
            findLeast(it);
        }
        return answer.at(what);
    }

    public int bar(int doors) {
        if (!isSet(doors)) {
            return OUTSIDE;
        }
        Thing it = now.thingAt(0);
        if (it == null || it.place < 0) {
            return STATE;
        }
        if (answer.isNew(BAR, 0, 0, doors)) {
            findBar(it, doors);
        }
        return answer.at(0);
    }

    public int order(int set, int i) {
        if (set < 1 || !isSet(set)) {
            return OUTSIDE;
        }
        for (int thing = 0; thing < THINGS; thing++) {
            Thing it = now.thingAt(thing);
            if (has(set, thing) && (it == null || it.place < 0)) {
                return STATE;
            }
        }
        if (answer.isNew(ORDER, 0, 0, set)) {
            findOrder(set);
        }
        return answer.at(i);
    }

    public int came(int thing, int what) {
        Thing it = now.thingAt(thing);
        int refusal = refusalOf(it, isUpTo(what, 1));
        if (it == null || refusal != 0) {
            return refusal;
        }
        if (answer.isNew(CAME, thing, 0, 0)) {
            findCame(it);
        }
        return answer.at(what);
    }

    public int image(int n) {
        Stair image = imageAt(n);
        if (image == null) {
            return OUTSIDE;
        }
        image.copyFrom(now);
        image.kept = true;
        return 1;
    }

    public int restore(int n) {
        Stair image = imageAt(n);
        if (image == null) {
            return OUTSIDE;
        }
        if (!image.kept) {
            return STATE;
        }
        now.copyFrom(image);
        forgetWay();
        return 1;
    }

    public int told(int what) {
        Thing it = what < 10 ? null : now.thingAt(what % 10);
        if (it == null) {
            return what == 0 ? pad.count : now.way.sizeAlong(what);
        }
        switch (what / 10) {
            case 1: return it.cubes;
            case 2: return it.place < 0 ? NONE : cellOf(it.place);
            case 3: return cellOf(it.goal);
            default: return OUTSIDE;
        }
    }

    // ---- rows on the PAD

    /** How a THING that was told is turned by the ROW on the PAD; NO, if that has another MOVE. */
    private int turnedByPad() {
        int turned = 0;
        for (int i = 0; i < pad.count; i++) {
            int turn = pad.moveAt(i) - FIRST_TURN;
            if (turn < 0) {
                return NO;
            }
            turned = turns.after(turned, turn);
        }
        return turned;
    }

    private int judged(Thing it, int what) {
        search.about(it);
        int stand = it.stand();
        for (int i = 0; i < pad.count; i++) {
            stand = search.step(stand, pad.moveAt(i));
            int why = search.why(stand);
            if (why != 0) {
                return what == 0 ? i : why;
            }
        }
        return NONE;
    }

    // ---- what is asked of one THING

    private int rowAnswer(int asked, int thing, int parts, int doors, int i) {
        Thing it = now.thingAt(thing);
        int refusal = refusalOf(it, isSet(parts) && isSet(doors));
        if (it == null || refusal != 0) {
            return refusal;
        }
        if (answer.isNew(asked, thing, parts, doors)) {
            search.about(it);
            search.off(parts, doors);
            if (asked == GOES) {
                findGoes(it);
            } else {
                cheapest.weigh(now.moveCosts, it.cubesOn(parts));
                cheapest.find(it.stand(), it.goal, answer);
            }
        }
        return i == -1 ? answer.total : answer.at(i);
    }

    private void findGoes(Thing it) {
        int end = search.flood(it.stand(), it.goal);
        if (end < 0) {
            answer.none();
            return;
        }
        search.trace(end, answer);
        answer.total = answer.count;
    }

    private int scrapes(Thing it) {
        int faces = 0;
        for (int cube = 0; cube < it.cubes; cube++) {
            int x = xOf(it.place) + it.along(turns, it.turned, cube, 0);
            int y = yOf(it.place) + it.along(turns, it.turned, cube, 1);
            int z = zOf(it.place) + it.along(turns, it.turned, cube, 2);
            faces += scrapesAt(it, x - 1, y, z) + scrapesAt(it, x + 1, y, z);
            faces += scrapesAt(it, x, y - 1, z) + scrapesAt(it, x, y + 1, z);
            faces += scrapesAt(it, x, y, z + 1);
        }
        return faces;
    }

    private int scrapesAt(Thing it, int x, int y, int z) {
        for (int cube = 0; cube < it.cubes; cube++) {
            if (x == xOf(it.place) + it.along(turns, it.turned, cube, 0)
                    && y == yOf(it.place) + it.along(turns, it.turned, cube, 1)
                    && z == zOf(it.place) + it.along(turns, it.turned, cube, 2)) {
                return 0;
            }
        }
        int place = now.way.placeAt(x, y, z);
        return place < 0 || now.way.kindAt(place) != 0 ? 1 : 0;
    }

    private int turnable(Thing it) {
        int cells = 0;
        for (int place = 0; place < PLACES; place++) {
            if (now.way.isCell(place) && fitsAllRound(place, it.turned)) {
                cells++;
            }
        }
        return cells;
    }

    private boolean fitsAllRound(int place, int turned) {
        int way = turned;
        for (int quarter = 0; quarter < 4; quarter++) {
            if (!search.fits(place * WAYS + way)) {
                return false;
            }
            way = turns.after(way, TURN_Z);
        }
        return true;
    }

    // ---- sets that are off

    /** Whether it GOES with a set off that is told as 16 times PARTS and DOORS. */
    private boolean goesWith(Thing it, int set) {
        search.off(set / SETS, set % SETS);
        return search.flood(it.stand(), it.goal) >= 0;
    }

    private void findLeast(Thing it) {
        answer.none();
        search.about(it);
        // A PART without CUBES or a DOOR without CELLS never comes off at least: without it the
        // cost is no more and the number of the set is less.
        int useful = it.partsSet() * SETS + now.way.doorsSet();
        if (!goesWith(it, useful)) {
            return;
        }
        int needed = neededOf(it, useful);
        sumSetCosts(it);
        for (int cost = 0; cost <= MOST_COST * (PARTS + DOORS); cost++) {
            for (int set = 0; set < setCosts.length; set++) {
                boolean may = setCosts[set] == cost && (set & ~useful) == 0 && (needed & ~set) == 0;
                if (may && goesWith(it, set)) {
                    answer.add(cost);
                    answer.add(set / SETS);
                    answer.add(set % SETS);
                    return;
                }
            }
        }
    }

    /** What is in each set by which it GOES: it does not go where all else of use is off. */
    private int neededOf(Thing it, int useful) {
        int needed = 0;
        for (int i = 0; i < PARTS + DOORS; i++) {
            if (has(useful, i) && !goesWith(it, useful & ~(1 << i))) {
                needed |= 1 << i;
            }
        }
        return needed;
    }

    private void sumSetCosts(Thing it) {
        for (int set = 0; set < setCosts.length; set++) {
            int sum = 0;
            for (int i = 0; i < COSTS; i++) {
                sum += has(set, i) ? read(now.doorCosts, i) : 0;
                sum += has(set / SETS, i) ? read(it.costs, i) : 0;
            }
            setCosts[set] = sum;
        }
    }

    private void findCame(Thing it) {
        answer.none();
        search.about(it);
        int useful = now.way.doorsSet();
        int goesBy = 0;
        int sets = 0;
        int always = SETS - 1;
        for (int doors = 0; doors < SETS; doors++) {
            // A DOOR more does no harm, and one without CELLS is of no use.
            if (goesByLess(goesBy, doors) || (doors & ~useful) == 0 && goesWith(it, doors)) {
                goesBy |= 1 << doors;
                sets++;
                always &= doors;
            }
        }
        answer.add(sets);
        if (sets > 0) {
            answer.add(always);
        }
    }

    /** Whether one DOOR of a set may be on and it GOES all the same; goesBy has a bit for each set. */
    private static boolean goesByLess(int goesBy, int doors) {
        for (int door = 0; door < DOORS; door++) {
            if (has(doors, door) && has(goesBy, doors & ~(1 << door))) {
                return true;
            }
        }
        return false;
    }

    // ---- bars and orders

    private void findBar(Thing it, int doors) {
        answer.none();
        for (int length = LONGEST_BAR; length > 0; length--) {
            if (barGoes(it, length, doors)) {
                answer.add(length);
                return;
            }
        }
    }

    private boolean barGoes(Thing it, int length, int doors) {
        rod.becomeBar(length);
        search.forget();
        search.about(rod);
        search.off(0, doors);
        int alongX = it.place * WAYS;
        int alongY = alongX + turns.after(0, TURN_Z);
        int alongZ = alongX + turns.after(0, TURN_Y);
        int start = search.fits(alongX) ? alongX : search.fits(alongY) ? alongY : alongZ;
        return search.flood(start, it.goal) >= 0;
    }

    /**
     * What is gone stands in nobody's way, so a THING that can go now can go later, too: the first
     * that can go, taken each time, comes to the first order by numbers, if there is any.
     */
    private void findOrder(int set) {
        answer.none();
        int left = set;
        for (int turn = 0; turn < THINGS && left != 0; turn++) {
            int next = firstToGo(left);
            if (next < 0) {
                answer.none();
                break;
            }
            answer.add(next);
            left &= ~(1 << next);
        }
        search.forget();
    }

    private int firstToGo(int left) {
        for (int thing = 0; thing < THINGS; thing++) {
            if (has(left, thing) && goesAmong(thing, left)) {
                return thing;
            }
        }
        return NONE;
    }

    private boolean goesAmong(int thing, int left) {
        Thing it = now.thingAt(thing);
        if (it == null) {
            return false;
        }
        search.forget();
        search.about(it);
        for (int other = 0; other < THINGS; other++) {
            Thing wall = now.thingAt(other);
            if (other != thing && has(left, other) && wall != null) {
                search.wall(wall);
            }
        }
        search.off(0, 0);
        return search.flood(it.stand(), it.goal) >= 0;
    }

    // ---- small things

    private Stair imageAt(int n) {
        return n >= 0 && n < images.length ? images[n] : null;
    }

    private void forgetWay() {
        search.forget();
        answer.forget();
    }

    /** What a question about a THING that must lie is refused by; 0: it is not. */
    private static int refusalOf(Thing it, boolean numbersAreAsTold) {
        if (it == null) {
            return UNKNOWN;
        }
        if (!numbersAreAsTold) {
            return OUTSIDE;
        }
        return it.place < 0 ? STATE : 0;
    }

    private static boolean isUpTo(int what, int most) {
        return what >= 0 && what <= most;
    }

    private static boolean isSet(int set) {
        return isUpTo(set, SETS - 1);
    }

    private static boolean has(int set, int bit) {
        return (set >> bit & 1) != 0;
    }

    private static int read(int[] row, int i) {
        return i >= 0 && i < row.length ? row[i] : 0;
    }

    private static void write(int[] row, int i, int value) {
        if (i >= 0 && i < row.length) {
            row[i] = value;
        }
    }

    private static void copy(int[] from, int[] to) {
        for (int i = 0; i < from.length && i < to.length; i++) {
            to[i] = from[i];
        }
    }

    // A place is a CELL by its number from 0 to 143, the same one for every size of THE WAY.

    private static int xOf(int place) {
        return place / (MOST_Y * MOST_Z);
    }

    private static int yOf(int place) {
        return place / MOST_Z % MOST_Y;
    }

    private static int zOf(int place) {
        return place % MOST_Z;
    }

    private static int cellOf(int place) {
        return 100 * xOf(place) + 10 * yOf(place) + zOf(place);
    }

    /** The PAD. */
    private static final class Pad {
        private final int[] signs = new int[PAD_SIGNS];
        private int count;

        boolean isFull() {
            return count >= signs.length;
        }

        int add(int sign) {
            write(signs, count, sign);
            count++;
            return count;
        }

        int clear() {
            int before = count;
            count = 0;
            return before;
        }

        int digitAt(int i) {
            return read(signs, i) - '0';
        }

        /** 0: the body, 1 to 4: PARTS 0 to 3; NONE: another sign. */
        int groupAt(int i) {
            int sign = read(signs, i);
            if (sign == '-') {
                return 0;
            }
            return sign >= 'a' && sign < 'a' + PARTS ? sign - 'a' + 1 : NONE;
        }

        int moveAt(int i) {
            return MOVES.indexOf((char) read(signs, i));
        }

        int rowFault() {
            for (int i = 0; i < count; i++) {
                if (i >= ROW_SIGNS || moveAt(i) < 0) {
                    return i;
                }
            }
            return NONE;
        }

        int thingFault() {
            for (int i = 0; i < count; i++) {
                if (!standsInThing(i)) {
                    return i;
                }
            }
            boolean whole = count > 0 && count % CUBE_SIGNS == 0;
            return whole && leastIsZero() ? NONE : count;
        }

        private boolean standsInThing(int i) {
            if (i >= MOST_CUBES * CUBE_SIGNS) {
                return false;
            }
            int inCube = i % CUBE_SIGNS;
            if (inCube == 3) {
                int group = groupAt(i);
                return group == 0 || i > 3 && group > 0;
            }
            boolean digit = digitAt(i) >= 0 && digitAt(i) <= LAST_DIGIT;
            return digit && (inCube < 2 || !isThere(i - 2));
        }

        /** Whether the CUBE whose digits begin at a place stands before that, too. */
        private boolean isThere(int start) {
            for (int i = 0; i < start; i += CUBE_SIGNS) {
                if (digitAt(i) == digitAt(start) && digitAt(i + 1) == digitAt(start + 1)
                        && digitAt(i + 2) == digitAt(start + 2)) {
                    return true;
                }
            }
            return false;
        }

        private boolean leastIsZero() {
            for (int axis = 0; axis < 3; axis++) {
                int least = LAST_DIGIT;
                for (int i = axis; i < count; i += CUBE_SIGNS) {
                    least = Math.min(least, digitAt(i));
                }
                if (least > 0) {
                    return false;
                }
            }
            return true;
        }
    }

    /** The 24 ways to be turned, by number; 0 is as told. */
    private static final class Turns {
        /** For each way and each of x, y, z: which of the told x 1, y 2, z 3 stands there now, or less it. */
        private final int[] axes = new int[WAYS * 3];
        private final int[] next = new int[WAYS * TURNS];

        Turns() {
            axes[0] = 1;
            axes[1] = 2;
            axes[2] = 3;
            int known = 1;
            for (int way = 0; way < known && way < WAYS; way++) {
                for (int turn = 0; turn < TURNS; turn++) {
                    int x = turnedAxis(way, turn, 0);
                    int y = turnedAxis(way, turn, 1);
                    int z = turnedAxis(way, turn, 2);
                    int after = find(known, x, y, z);
                    if (after == known) {
                        write(axes, 3 * after, x);
                        write(axes, 3 * after + 1, y);
                        write(axes, 3 * after + 2, z);
                        known++;
                    }
                    write(next, way * TURNS + turn, after);
                }
            }
        }

        int after(int way, int turn) {
            return read(next, way * TURNS + turn);
        }

        int axisAt(int way, int axis) {
            return read(axes, way * 3 + axis);
        }

        private int find(int known, int x, int y, int z) {
            for (int way = 0; way < known; way++) {
                if (axisAt(way, 0) == x && axisAt(way, 1) == y && axisAt(way, 2) == z) {
                    return way;
                }
            }
            return known;
        }

        /** What stands at an axis after a TURN (x, y, z, X, Y, Z by number) of a way. */
        private int turnedAxis(int way, int turn, int axis) {
            int about = turn % 3;
            if (axis == about) {
                return axisAt(way, axis);
            }
            int other = 3 - about - axis;
            // z puts less y at x and x at y; x and y do the same one axis further round.
            boolean lessByTurn = axis == (about + 1) % 3;
            boolean back = turn >= 3;
            return lessByTurn != back ? -axisAt(way, other) : axisAt(way, other);
        }
    }

    /** THE WAY: its size and the KINDS of its CELLS. */
    private static final class Way {
        private int sizeX, sizeY, sizeZ;
        private final int[] kinds = new int[PLACES];
        /** For each place and MOVE n s w e u v: the place beside it, or NONE beyond CELLS. */
        private final int[] beside = new int[PLACES * FIRST_TURN];

        Way() {
            measure(MOST_X, MOST_Y, 2);
        }

        void resize(int x, int y, int z) {
            measure(x, y, z);
            Arrays.fill(kinds, 0);
        }

        void copyFrom(Way other) {
            measure(other.sizeX, other.sizeY, other.sizeZ);
            copy(other.kinds, kinds);
        }

        private void measure(int x, int y, int z) {
            sizeX = x;
            sizeY = y;
            sizeZ = z;
            for (int place = 0; place < PLACES; place++) {
                int i = place * FIRST_TURN;
                write(beside, i, placeAt(xOf(place), yOf(place) - 1, zOf(place)));
                write(beside, i + 1, placeAt(xOf(place), yOf(place) + 1, zOf(place)));
                write(beside, i + 2, placeAt(xOf(place) - 1, yOf(place), zOf(place)));
                write(beside, i + 3, placeAt(xOf(place) + 1, yOf(place), zOf(place)));
                write(beside, i + 4, placeAt(xOf(place), yOf(place), zOf(place) + 1));
                write(beside, i + 5, placeAt(xOf(place), yOf(place), zOf(place) - 1));
            }
        }

        int placeAt(int x, int y, int z) {
            boolean within = x >= 0 && x < sizeX && y >= 0 && y < sizeY && z >= 0 && z < sizeZ;
            return within ? (x * MOST_Y + y) * MOST_Z + z : NONE;
        }

        int placeOf(int cell) {
            return cell < 0 ? NONE : placeAt(cell / 100, cell / 10 % 10, cell % 10);
        }

        boolean isCell(int place) {
            return xOf(place) < sizeX && yOf(place) < sizeY && zOf(place) < sizeZ;
        }

        int placeBeside(int place, int move) {
            return read(beside, place * FIRST_TURN + move);
        }

        int kindAt(int place) {
            return read(kinds, place);
        }

        int paint(int first, int last, int kind) {
            int painted = 0;
            for (int x = xOf(first); x <= xOf(last); x++) {
                for (int y = yOf(first); y <= yOf(last); y++) {
                    for (int z = zOf(first); z <= zOf(last); z++) {
                        write(kinds, placeAt(x, y, z), kind);
                        painted++;
                    }
                }
            }
            return painted;
        }

        /** The DOORS that some CELL is of. */
        int doorsSet() {
            int doors = 0;
            for (int place = 0; place < PLACES; place++) {
                doors |= kinds[place] >= FIRST_DOOR ? 1 << kinds[place] - FIRST_DOOR : 0;
            }
            return doors;
        }

        int sizeAlong(int what) {
            switch (what) {
                case 1: return sizeX;
                case 2: return sizeY;
                case 3: return sizeZ;
                default: return OUTSIDE;
            }
        }
    }

    /** A THING: its CUBES as told, where and how it lies, its GOAL, the costs of its PARTS. */
    private static final class Thing {
        private int cubes;
        private int place = NONE;
        private int turned;
        private int goal;
        private final int[] spots = new int[MOST_CUBES * 3];
        private final int[] groups = new int[MOST_CUBES];
        private final int[] greatest = new int[3];
        private final int[] costs = new int[PARTS];

        Thing() {
            Arrays.fill(costs, 1);
        }

        void tell(Pad pad) {
            cubes = Math.min(pad.count / CUBE_SIGNS, MOST_CUBES);
            place = NONE;
            Arrays.fill(greatest, 0);
            for (int cube = 0; cube < cubes; cube++) {
                int start = cube * CUBE_SIGNS;
                put(cube, pad.digitAt(start), pad.digitAt(start + 1), pad.digitAt(start + 2));
                write(groups, cube, pad.groupAt(start + 3));
            }
        }

        void becomeBar(int length) {
            cubes = Math.min(length, LONGEST_BAR);
            Arrays.fill(greatest, 0);
            for (int cube = 0; cube < cubes; cube++) {
                put(cube, cube, 0, 0);
            }
        }

        private void put(int cube, int x, int y, int z) {
            write(spots, cube * 3, x);
            write(spots, cube * 3 + 1, y);
            write(spots, cube * 3 + 2, z);
            greatest[0] = Math.max(greatest[0], x);
            greatest[1] = Math.max(greatest[1], y);
            greatest[2] = Math.max(greatest[2], z);
        }

        void copyFrom(Thing other) {
            cubes = other.cubes;
            place = other.place;
            turned = other.turned;
            goal = other.goal;
            copy(other.spots, spots);
            copy(other.groups, groups);
            copy(other.greatest, greatest);
            copy(other.costs, costs);
        }

        int stand() {
            return place * WAYS + turned;
        }

        /** 0: the body, 1 to 4: PARTS 0 to 3. */
        int groupOf(int cube) {
            return read(groups, cube);
        }

        /** How far a CUBE is from the least corner along x 0, y 1 or z 2, turned in a way. */
        int along(Turns turns, int way, int cube, int axis) {
            int from = turns.axisAt(way, axis);
            int told = Math.abs(from) - 1;
            int spot = read(spots, cube * 3 + told);
            // The least of all as told is 0, so the greatest is what a mirrored axis is pushed by.
            return from > 0 ? spot : read(greatest, told) - spot;
        }

        int partsSet() {
            int parts = 0;
            for (int cube = 0; cube < cubes; cube++) {
                parts |= 1 << groupOf(cube) >> 1;
            }
            return parts;
        }

        int cubesOn(int partsOff) {
            int on = 0;
            for (int cube = 0; cube < cubes; cube++) {
                on += has(partsOff << 1, groupOf(cube)) ? 0 : 1;
            }
            return on;
        }
    }

    /** All but the PAD: what an IMAGE keeps. */
    private static final class Stair {
        private final Way way = new Way();
        private final Thing[] things = new Thing[THINGS];
        private final int[] doorCosts = new int[DOORS];
        private final int[] moveCosts = new int[COSTS];
        /** Of an IMAGE: whether something was kept in it. */
        private boolean kept;

        Stair() {
            for (int thing = 0; thing < THINGS; thing++) {
                things[thing] = new Thing();
            }
            Arrays.fill(doorCosts, 1);
            Arrays.fill(moveCosts, 1);
        }

        Thing thingAt(int thing) {
            return thing >= 0 && thing < things.length ? things[thing] : null;
        }

        int[] costsOf(int thing) {
            Thing it = thingAt(thing);
            if (it != null) {
                return it.costs;
            }
            return thing == -1 ? doorCosts : thing == -2 ? moveCosts : null;
        }

        void copyFrom(Stair other) {
            way.copyFrom(other.way);
            copy(other.doorCosts, doorCosts);
            copy(other.moveCosts, moveCosts);
            for (int thing = 0; thing < THINGS; thing++) {
                Thing it = thingAt(thing);
                Thing from = other.thingAt(thing);
                if (it != null && from != null) {
                    it.copyFrom(from);
                }
            }
        }
    }

    /** The last answer that was looked for: kept, since a ROW is asked for MOVE by MOVE. */
    private static final class Answer {
        private final int[] row = new int[STANDS];
        private int key, count, total;

        void forget() {
            key = 0;
        }

        /** Whether something else is asked for than before; it is held for answered from now on. */
        boolean isNew(int asked, int thing, int parts, int doors) {
            int newKey = ((asked * THINGS + thing) * SETS + parts) * SETS + doors;
            boolean fresh = newKey != key;
            key = newKey;
            return fresh;
        }

        void none() {
            count = 0;
            total = NONE;
        }

        void add(int value) {
            write(row, count, value);
            count++;
        }

        int at(int i) {
            return i >= 0 && i < count ? read(row, i) : NONE;
        }
    }

    /**
     * How one THING comes from STAND to STAND. A STAND is a number: 24 times the place and the way
     * to be turned.
     */
    private static final class Search {
        // The grid has room beyond THE WAY for the longest thing, so that no CUBE falls out of it.
        private static final int GRID_Z = MOST_Z + LONGEST_BAR - 1, GRID_Y = MOST_Y + LONGEST_BAR - 1;
        private static final int GRID_X = MOST_X + LONGEST_BAR - 1;
        /** What hinders a CUBE, as bits: DOORS 0 to 3, a wall, beyond CELLS; six bits for each group. */
        private static final int WALL_BIT = 16, BEYOND_BIT = 32, GROUP_BITS = 6, GROUPS = 1 + PARTS;
        private static final int BEYOND_ALL = 0x20820820, NOT_LOOKED_AT = -1, NOT_REACHED = -1;

        private final Turns turns;
        private final Way way;
        private final int[] grid = new int[GRID_X * GRID_Y * GRID_Z];
        /** Where places are in the grid, and how far from there CUBES are, for each way to be turned. */
        private final int[] corners = new int[PLACES];
        private final int[] offsets = new int[WAYS * MOST_CUBES];
        private final int[] hindered = new int[STANDS];
        private final int[] queue = new int[STANDS];
        private final int[] reachedBy = new int[STANDS];
        private Thing thing;
        private int hindering;
        private int reached;

        Search(Turns turns, Way way) {
            this.turns = turns;
            this.way = way;
            Arrays.fill(reachedBy, NOT_REACHED);
            for (int place = 0; place < PLACES; place++) {
                write(corners, place, gridAt(xOf(place), yOf(place), zOf(place)));
            }
        }

        void forget() {
            thing = null;
        }

        /** From now on it is about a THING; what was looked at holds until it is forgotten. */
        void about(Thing newThing) {
            if (thing == newThing) {
                return;
            }
            thing = newThing;
            Arrays.fill(hindered, NOT_LOOKED_AT);
            drawGrid();
            for (int turned = 0; turned < WAYS; turned++) {
                for (int cube = 0; cube < newThing.cubes; cube++) {
                    write(offsets, turned * MOST_CUBES + cube, gridAt(newThing.along(turns, turned, cube, 0),
                            newThing.along(turns, turned, cube, 1), newThing.along(turns, turned, cube, 2)));
                }
            }
        }

        /** Another THING is as walls where it lies. */
        void wall(Thing other) {
            for (int cube = 0; cube < other.cubes; cube++) {
                int offset = gridAt(other.along(turns, other.turned, cube, 0),
                        other.along(turns, other.turned, cube, 1), other.along(turns, other.turned, cube, 2));
                write(grid, read(corners, other.place) + offset, WALL_BIT);
            }
        }

        /** From now on PARTS and DOORS of sets are off. */
        void off(int parts, int doors) {
            int each = BEYOND_BIT | WALL_BIT | SETS - 1 & ~doors;
            hindering = 0;
            for (int group = 0; group < GROUPS; group++) {
                hindering |= has(parts << 1, group) ? 0 : each << group * GROUP_BITS;
            }
        }

        boolean fits(int stand) {
            int seen = read(hindered, stand);
            if (seen == NOT_LOOKED_AT) {
                seen = lookAt(stand);
                write(hindered, stand, seen);
            }
            return (seen & hindering) == 0;
        }

        /** Why it does not FIT at a STAND, nothing off: 1 beyond CELLS, 2 a wall or a DOOR; 0: it does. */
        int why(int stand) {
            int seen = stand < 0 ? BEYOND_ALL : lookAt(stand);
            return (seen & BEYOND_ALL) != 0 ? 1 : seen != 0 ? 2 : 0;
        }

        /** The STAND after a MOVE; below 0, if its least corner is beyond CELLS. */
        int step(int stand, int move) {
            int place = stand / WAYS;
            int turned = stand % WAYS;
            if (move >= FIRST_TURN) {
                return place * WAYS + turns.after(turned, move - FIRST_TURN);
            }
            int next = way.placeBeside(place, move);
            return next < 0 ? NONE : next * WAYS + turned;
        }

        /**
         * Goes from a STAND wherever it FITS, until it is at the goal (NONE: wherever it can come to):
         * the STAND there, NONE if it does not come there. STANDS are come to by MOVES in their order,
         * so each one is reached by the first of its shortest ROWS.
         */
        int flood(int start, int goal) {
            for (int i = 0; i < reached && i < queue.length; i++) {
                write(reachedBy, queue[i], NOT_REACHED);
            }
            reached = 0;
            if (fits(start)) {
                reach(start, ALL_MOVES);
            }
            for (int head = 0; head < reached && head < queue.length; head++) {
                int stand = queue[head];
                if (stand / WAYS == goal) {
                    return stand;
                }
                for (int move = 0; move < ALL_MOVES; move++) {
                    int next = step(stand, move);
                    if (next >= 0 && read(reachedBy, next) == NOT_REACHED && fits(next)) {
                        reach(next, move);
                    }
                }
            }
            return NONE;
        }

        /** The ROW by which the last flood came to a STAND. */
        void trace(int end, Answer answer) {
            int moves = 0;
            for (int stand = end; moves < STANDS && read(reachedBy, stand) < ALL_MOVES; moves++) {
                stand = step(stand, opposite(read(reachedBy, stand)));
            }
            answer.none();
            answer.count = moves;
            int stand = end;
            for (int i = moves - 1; i >= 0; i--) {
                int move = read(reachedBy, stand);
                write(answer.row, i, signOf(move));
                stand = step(stand, opposite(move));
            }
        }

        static int opposite(int move) {
            if (move < FIRST_TURN) {
                return move ^ 1;
            }
            return move < FIRST_TURN + 3 ? move + 3 : move - 3;
        }

        static int signOf(int move) {
            return move >= 0 && move < MOVES.length() ? MOVES.charAt(move) : NONE;
        }

        private void reach(int stand, int move) {
            write(reachedBy, stand, move);
            write(queue, reached, stand);
            reached++;
        }

        /** What hinders it at a STAND, whatever is off. */
        private int lookAt(int stand) {
            int seen = 0;
            if (thing != null) {
                int corner = read(corners, stand / WAYS);
                int first = stand % WAYS * MOST_CUBES;
                for (int cube = 0; cube < thing.cubes; cube++) {
                    int hindrance = read(grid, corner + read(offsets, first + cube));
                    seen |= hindrance << read(thing.groups, cube) * GROUP_BITS;
                }
            }
            return seen;
        }

        private void drawGrid() {
            Arrays.fill(grid, BEYOND_BIT);
            for (int place = 0; place < PLACES; place++) {
                if (way.isCell(place)) {
                    write(grid, read(corners, place), hindranceOf(way.kindAt(place)));
                }
            }
        }

        private static int hindranceOf(int kind) {
            return kind == 0 ? 0 : kind == WALL ? WALL_BIT : 1 << kind - FIRST_DOOR;
        }

        private static int gridAt(int x, int y, int z) {
            return (x * GRID_Y + y) * GRID_Z + z;
        }
    }

    /** The ROW of least EFFORT, found from the GOAL back to where the THING lies. */
    private static final class Cheapest {
        /** A sum counts this much more than a MOVE: no ROW has so many MOVES. */
        private static final int PER_COST = 4096, FAR = 0x7fffffff;

        private final Search search;
        private final int[] weights = new int[ALL_MOVES];
        /** How far a STAND is from the GOAL: PER_COST times the sum, and the MOVES. */
        private final int[] far = new int[STANDS];
        /** STANDS to be looked at, the nearest at 0, none nearer than that at half its index. */
        private final int[] heap = new int[STANDS];
        private final int[] heapIndex = new int[STANDS];
        private int waiting;

        Cheapest(Search search) {
            this.search = search;
        }

        void weigh(int[] costs, int cubesOn) {
            for (int move = 0; move < ALL_MOVES; move++) {
                int cost = read(costs, 0);
                if (move == LIFT) {
                    cost = read(costs, 1) * cubesOn;
                } else if (move == LET_DOWN) {
                    cost = read(costs, 2);
                } else if (move >= FIRST_TURN) {
                    cost = read(costs, 3);
                }
                weights[move] = cost * PER_COST + 1;
            }
        }

        void find(int start, int goal, Answer answer) {
            answer.none();
            if (!search.fits(start)) {
                return;
            }
            Arrays.fill(far, FAR);
            waiting = 0;
            for (int turned = 0; turned < WAYS; turned++) {
                come(goal * WAYS + turned, 0);
            }
            for (int looked = 0; looked < STANDS && waiting > 0; looked++) {
                int stand = takeNearest();
                if (stand == start) {
                    answer.total = read(far, start) / PER_COST;
                    walk(start, answer);
                    return;
                }
                comeBackFrom(stand);
            }
        }

        private void comeBackFrom(int stand) {
            for (int move = 0; move < ALL_MOVES; move++) {
                int before = search.step(stand, Search.opposite(move));
                if (before >= 0) {
                    come(before, read(far, stand) + weights[move]);
                }
            }
        }

        private void come(int stand, int distance) {
            if (distance >= read(far, stand) || !search.fits(stand)) {
                return;
            }
            if (read(far, stand) == FAR) {
                write(heapIndex, stand, waiting);
                waiting++;
            }
            write(far, stand, distance);
            rise(stand);
        }

        /** From the start on always the first MOVE that is on a way of least EFFORT. */
        private void walk(int start, Answer answer) {
            int stand = start;
            for (int step = 0; step < STANDS && read(far, stand) > 0; step++) {
                int move = firstMove(stand);
                answer.add(Search.signOf(move));
                stand = search.step(stand, move);
            }
        }

        private int firstMove(int stand) {
            for (int move = 0; move < ALL_MOVES; move++) {
                int next = search.step(stand, move);
                if (next >= 0 && read(far, next) == read(far, stand) - weights[move]) {
                    return move;
                }
            }
            return 0;
        }

        private void put(int index, int stand) {
            write(heap, index, stand);
            write(heapIndex, stand, index);
        }

        private void rise(int stand) {
            int index = read(heapIndex, stand);
            while (index > 0) {
                int above = read(heap, (index - 1) / 2);
                if (read(far, above) <= read(far, stand)) {
                    break;
                }
                put(index, above);
                index = (index - 1) / 2;
            }
            put(index, stand);
        }

        private int takeNearest() {
            int nearest = read(heap, 0);
            waiting--;
            if (waiting > 0) {
                sink(read(heap, waiting));
            }
            return nearest;
        }

        private void sink(int stand) {
            int index = 0;
            for (int below = 1; below < waiting; below = 2 * index + 1) {
                int right = below + 1;
                if (right < waiting && read(far, read(heap, right)) < read(far, read(heap, below))) {
                    below = right;
                }
                int nearer = read(heap, below);
                if (read(far, stand) <= read(far, nearer)) {
                    break;
                }
                put(index, nearer);
                index = below;
            }
            put(index, stand);
        }
    }
}
