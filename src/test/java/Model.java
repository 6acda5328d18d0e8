import java.util.ArrayList;
import java.util.Arrays;
import java.util.HashMap;
import java.util.HashSet;
import java.util.LinkedHashMap;
import java.util.List;
import java.util.Map;
import java.util.PriorityQueue;
import java.util.Set;

/**
 * The document once more, written as slowly and plainly as can be and otherwise than the class:
 * turned CUBES are pushed about one by one, ROWS are compared as whole texts, every set is tried.
 */
final class Model {
    static final int UNKNOWN = -1, OUTSIDE = -2, STATE = -3, FULL = -4, NO = -5, NONE = -6;
    static final String SIGNS = "nsweuvxyzXYZ";

    /** A CUBE: x, y, z, and its PART or -1. */
    record Cube(int x, int y, int z, int part) { }

    /** How something is turned: the told axis (1 to 3, or less it) that stands at x, y, z now. */
    record Turned(int x, int y, int z) { }

    record Stand(int x, int y, int z, Turned turned) { }

    /** A ROW as a text of the letters a to l, so that texts are ordered as MOVES are. */
    record Way(Stand stand, int sum, String row) { }

    static final class Thing {
        List<Cube> cubes = new ArrayList<>();
        int[] costs = {1, 1, 1, 1};
        int goal;
        Stand lies;

        Thing copy() {
            Thing c = new Thing();
            c.cubes = cubes;
            c.costs = costs.clone();
            c.goal = goal;
            c.lies = lies;
            return c;
        }
    }

    int sizeX = 6, sizeY = 6, sizeZ = 2;
    Map<Integer, Integer> kinds = new HashMap<>();
    Thing[] things = {new Thing(), new Thing(), new Thing(), new Thing()};
    int[] doorCosts = {1, 1, 1, 1}, moveCosts = {1, 1, 1, 1};
    String pad = "";
    Model[] images = new Model[2];

    static final Turned AS_TOLD = new Turned(1, 2, 3);

    // ---- the calls

    int size(int x, int y, int z) {
        if (x < 1 || x > 6 || y < 1 || y > 6 || z < 1 || z > 4) return OUTSIDE;
        sizeX = x;
        sizeY = y;
        sizeZ = z;
        kinds.clear();
        for (Thing t : things) {
            t.lies = null;
            t.goal = 0;
        }
        return x * y * z;
    }

    int fill(int from, int to, int kind) {
        if (!isCell(from) || !isCell(to)) return UNKNOWN;
        if (kind < 0 || kind > 5) return OUTSIDE;
        if (from / 100 > to / 100 || from / 10 % 10 > to / 10 % 10 || from % 10 > to % 10) return OUTSIDE;
        int n = 0;
        for (int cell = 0; cell < 1000; cell++) {
            if (isCell(cell) && cell / 100 >= from / 100 && cell / 100 <= to / 100
                    && cell / 10 % 10 >= from / 10 % 10 && cell / 10 % 10 <= to / 10 % 10
                    && cell % 10 >= from % 10 && cell % 10 <= to % 10) {
                kinds.put(cell, kind);
                n++;
            }
        }
        return n;
    }

    int cell(int cell) {
        return isCell(cell) ? kinds.getOrDefault(cell, 0) : UNKNOWN;
    }

    int say(int sign) {
        if (sign < 33 || sign > 126) return OUTSIDE;
        if (pad.length() == 60) return FULL;
        pad += (char) sign;
        return pad.length();
    }

    int wipe() {
        int n = pad.length();
        pad = "";
        return n;
    }

    int fault(int how) {
        if (how != 0 && how != 1) return OUTSIDE;
        return how == 0 ? thingFault() : rowFault();
    }

    int thing(int thing) {
        if (thing < 0 || thing > 3) return UNKNOWN;
        if (thingFault() != NONE) return NO;
        things[thing].cubes = cubesOf(pad);
        things[thing].lies = null;
        pad = "";
        return things[thing].cubes.size();
    }

    int cube(int thing, int cube, int what) {
        if (thing < 0 || thing > 3 || cube < 0 || cube >= things[thing].cubes.size()) return UNKNOWN;
        if (what < 0 || what > 3) return OUTSIDE;
        Thing t = things[thing];
        Cube c = turned(t.cubes, t.lies == null ? AS_TOLD : t.lies.turned).get(cube);
        return what == 0 ? c.x : what == 1 ? c.y : what == 2 ? c.z : c.part == -1 ? NONE : c.part;
    }

    int cost(int thing, int which, int v) {
        if (thing < -2 || thing > 3) return UNKNOWN;
        if (which < 0 || which > 3 || v < 0 || v > 9) return OUTSIDE;
        int[] costs = thing == -2 ? moveCosts : thing == -1 ? doorCosts : things[thing].costs;
        int old = costs[which];
        costs[which] = v;
        return old;
    }

    int lay(int thing, int cell) {
        if (thing < 0 || thing > 3 || !isCell(cell)) return UNKNOWN;
        Thing t = things[thing];
        if (t.cubes.isEmpty()) return STATE;
        if (rowFault() != NONE) return NO;
        Stand s = new Stand(cell / 100, cell / 10 % 10, cell % 10, AS_TOLD);
        for (char sign : pad.toCharArray()) {
            if ("xyzXYZ".indexOf(sign) < 0) return NO;
            s = step(s, sign);
        }
        if (why(t.cubes, s, 0, 0, Set.of()) != 0) return NO;
        t.lies = s;
        pad = "";
        return 1;
    }

    int goal(int thing, int cell) {
        if (thing < 0 || thing > 3 || !isCell(cell)) return UNKNOWN;
        int old = things[thing].goal;
        things[thing].goal = cell;
        return old;
    }

    int judge(int thing, int what) {
        if (thing < 0 || thing > 3) return UNKNOWN;
        if (what != 0 && what != 1) return OUTSIDE;
        Thing t = things[thing];
        if (t.lies == null) return STATE;
        if (rowFault() != NONE) return NO;
        Stand s = t.lies;
        for (int i = 0; i < pad.length(); i++) {
            s = step(s, pad.charAt(i));
            int why = why(t.cubes, s, 0, 0, Set.of());
            if (why != 0) return what == 0 ? i : why;
        }
        return NONE;
    }

    int move(int thing) {
        int first = judge(thing, 0);
        if (first == UNKNOWN || first == STATE || first == NO) return first;
        if (first != NONE) return NO;
        Thing t = things[thing];
        for (char sign : pad.toCharArray()) t.lies = step(t.lies, sign);
        pad = "";
        return cellOf(t.lies);
    }

    int goes(int thing, int parts, int doors, int i) {
        return row(thing, parts, doors, i, false);
    }

    int effort(int thing, int parts, int doors, int i) {
        return row(thing, parts, doors, i, true);
    }

    int row(int thing, int parts, int doors, int i, boolean costly) {
        if (thing < 0 || thing > 3) return UNKNOWN;
        if (parts < 0 || parts > 15 || doors < 0 || doors > 15) return OUTSIDE;
        Thing t = things[thing];
        if (t.lies == null) return STATE;
        Way way = costly ? cheapest(t, parts, doors) : shortest(t.cubes, t.lies, t.goal, parts, doors, Set.of());
        if (way == null) return NONE;
        if (i == -1) return costly ? way.sum : way.row.length();
        return i >= 0 && i < way.row.length() ? SIGNS.charAt(way.row.charAt(i) - 'a') : NONE;
    }

    int room(int thing, int what) {
        if (thing < 0 || thing > 3) return UNKNOWN;
        if (what < 0 || what > 2) return OUTSIDE;
        Thing t = things[thing];
        if (t.lies == null) return STATE;
        return what == 0 ? comesTo(t) : what == 1 ? scrapes(t) : turnable(t);
    }

    int least(int thing, int what) {
        if (thing < 0 || thing > 3) return UNKNOWN;
        if (what < 0 || what > 2) return OUTSIDE;
        Thing t = things[thing];
        if (t.lies == null) return STATE;
        int best = NONE, bestCost = 1000;
        for (int set = 0; set < 256; set++) {
            int cost = 0;
            for (int b = 0; b < 4; b++) {
                if ((set & 1 << b) != 0) cost += doorCosts[b];
                if ((set & 16 << b) != 0) cost += t.costs[b];
            }
            if (cost < bestCost && shortest(t.cubes, t.lies, t.goal, set / 16, set % 16, Set.of()) != null) {
                best = set;
                bestCost = cost;
            }
        }
        if (best == NONE) return NONE;
        return what == 0 ? bestCost : what == 1 ? best / 16 : best % 16;
    }

    int bar(int doors) {
        if (doors < 0 || doors > 15) return OUTSIDE;
        Thing t = things[0];
        if (t.lies == null) return STATE;
        int longest = NONE;
        for (int length = 1; length <= 6; length++) {
            List<Cube> bar = new ArrayList<>();
            for (int k = 0; k < length; k++) bar.add(new Cube(k, 0, 0, -1));
            Stand start = null;
            for (String turns : List.of("", "z", "y")) {
                Stand s = new Stand(t.lies.x, t.lies.y, t.lies.z, AS_TOLD);
                for (char sign : turns.toCharArray()) s = step(s, sign);
                if (start == null && why(bar, s, 0, doors, Set.of()) == 0) start = s;
            }
            if (start != null && shortest(bar, start, t.goal, 0, doors, Set.of()) != null) longest = length;
        }
        return longest;
    }

    int order(int set, int i) {
        if (set < 1 || set > 15) return OUTSIDE;
        List<Integer> members = new ArrayList<>();
        for (int t = 0; t < 4; t++) {
            if ((set & 1 << t) != 0) {
                if (things[t].lies == null) return STATE;
                members.add(t);
            }
        }
        List<Integer> order = firstOrder(new ArrayList<>(), members);
        return order == null || i < 0 || i >= order.size() ? NONE : order.get(i);
    }

    int came(int thing, int what) {
        if (thing < 0 || thing > 3) return UNKNOWN;
        if (what < 0 || what > 1) return OUTSIDE;
        Thing t = things[thing];
        if (t.lies == null) return STATE;
        int sets = 0, each = 15;
        for (int doors = 0; doors < 16; doors++) {
            if (shortest(t.cubes, t.lies, t.goal, 0, doors, Set.of()) != null) {
                sets++;
                each &= doors;
            }
        }
        return what == 0 ? sets : sets == 0 ? NONE : each;
    }

    int image(int n) {
        if (n < 0 || n > 1) return OUTSIDE;
        images[n] = new Model();
        images[n].takeFrom(this);
        return 1;
    }

    int restore(int n) {
        if (n < 0 || n > 1) return OUTSIDE;
        if (images[n] == null) return STATE;
        takeFrom(images[n]);
        return 1;
    }

    int told(int what) {
        if (what == 0) return pad.length();
        if (what >= 1 && what <= 3) return what == 1 ? sizeX : what == 2 ? sizeY : sizeZ;
        int t = what % 10;
        if (what < 10 || what >= 40 || t > 3) return OUTSIDE;
        if (what < 20) return things[t].cubes.size();
        if (what < 30) return things[t].lies == null ? NONE : cellOf(things[t].lies);
        return things[t].goal;
    }

    // ---- what is behind them

    void takeFrom(Model other) {
        sizeX = other.sizeX;
        sizeY = other.sizeY;
        sizeZ = other.sizeZ;
        kinds = new HashMap<>(other.kinds);
        doorCosts = other.doorCosts.clone();
        moveCosts = other.moveCosts.clone();
        for (int t = 0; t < 4; t++) things[t] = other.things[t].copy();
    }

    boolean isCell(int cell) {
        return cell >= 0 && cell / 100 < sizeX && cell / 10 % 10 < sizeY && cell % 10 < sizeZ;
    }

    static int cellOf(Stand s) {
        return 100 * s.x + 10 * s.y + s.z;
    }

    int rowFault() {
        for (int i = 0; i < pad.length(); i++) {
            if (i == 40 || SIGNS.indexOf(pad.charAt(i)) < 0) return i;
        }
        return NONE;
    }

    int thingFault() {
        Set<String> there = new HashSet<>();
        for (int i = 0; i < pad.length(); i++) {
            char sign = pad.charAt(i);
            if (i == 40) return i;
            boolean ok = i % 4 < 3 ? "0123".indexOf(sign) >= 0 : (i == 3 ? "-" : "-abcd").indexOf(sign) >= 0;
            if (i % 4 == 2 && !there.add(pad.substring(i - 2, i + 1))) ok = false;
            if (!ok) return i;
        }
        if (pad.isEmpty() || pad.length() % 4 != 0) return pad.length();
        List<Cube> cubes = cubesOf(pad);
        boolean zero = cubes.stream().anyMatch(c -> c.x == 0) && cubes.stream().anyMatch(c -> c.y == 0)
                && cubes.stream().anyMatch(c -> c.z == 0);
        return zero ? NONE : pad.length();
    }

    static List<Cube> cubesOf(String text) {
        List<Cube> cubes = new ArrayList<>();
        for (int i = 0; i + 3 < text.length(); i += 4) {
            cubes.add(new Cube(text.charAt(i) - '0', text.charAt(i + 1) - '0', text.charAt(i + 2) - '0',
                    "abcd".indexOf(text.charAt(i + 3))));
        }
        return cubes;
    }

    Stand step(Stand s, char sign) {
        Turned t = s.turned;
        switch (sign) {
            case 'n': return new Stand(s.x, s.y - 1, s.z, t);
            case 's': return new Stand(s.x, s.y + 1, s.z, t);
            case 'w': return new Stand(s.x - 1, s.y, s.z, t);
            case 'e': return new Stand(s.x + 1, s.y, s.z, t);
            case 'u': return new Stand(s.x, s.y, s.z + 1, t);
            case 'v': return new Stand(s.x, s.y, s.z - 1, t);
            case 'z': return new Stand(s.x, s.y, s.z, new Turned(-t.y, t.x, t.z));
            case 'x': return new Stand(s.x, s.y, s.z, new Turned(t.x, -t.z, t.y));
            case 'y': return new Stand(s.x, s.y, s.z, new Turned(t.z, t.y, -t.x));
            // three quarters one way are one quarter back
            case 'X': return step(step(step(s, 'x'), 'x'), 'x');
            case 'Y': return step(step(step(s, 'y'), 'y'), 'y');
            default: return step(step(step(s, 'z'), 'z'), 'z');
        }
    }

    final Map<List<Cube>, Map<Turned, List<Cube>>> turnedBefore = new HashMap<>();

    List<Cube> turned(List<Cube> cubes, Turned t) {
        return turnedBefore.computeIfAbsent(cubes, c -> new HashMap<>()).computeIfAbsent(t, k -> turn(cubes, k));
    }

    static List<Cube> turn(List<Cube> cubes, Turned t) {
        List<Cube> turned = new ArrayList<>();
        for (Cube c : cubes) turned.add(new Cube(pick(c, t.x), pick(c, t.y), pick(c, t.z), c.part));
        int x = turned.stream().mapToInt(Cube::x).min().getAsInt();
        int y = turned.stream().mapToInt(Cube::y).min().getAsInt();
        int z = turned.stream().mapToInt(Cube::z).min().getAsInt();
        turned.replaceAll(c -> new Cube(c.x - x, c.y - y, c.z - z, c.part));
        return turned;
    }

    static int pick(Cube c, int axis) {
        int v = Math.abs(axis) == 1 ? c.x : Math.abs(axis) == 2 ? c.y : c.z;
        return axis < 0 ? -v : v;
    }

    /** 0: it FITS; 1: beyond CELLS; 2: in a wall, a DOOR or another THING. */
    int why(List<Cube> cubes, Stand s, int parts, int doors, Set<Integer> walls) {
        if (!isCellAt(s.x, s.y, s.z)) return 1;
        int why = 0;
        for (Cube c : turned(cubes, s.turned)) {
            if (c.part >= 0 && (parts & 1 << c.part) != 0) continue;
            int x = s.x + c.x, y = s.y + c.y, z = s.z + c.z;
            if (!isCellAt(x, y, z)) return 1;
            int cell = 100 * x + 10 * y + z, kind = kinds.getOrDefault(cell, 0);
            boolean free = kind == 0 || kind >= 2 && (doors & 1 << (kind - 2)) != 0;
            if (!free || walls.contains(cell)) why = 2;
        }
        return why;
    }

    boolean isCellAt(int x, int y, int z) {
        return x >= 0 && x < sizeX && y >= 0 && y < sizeY && z >= 0 && z < sizeZ;
    }

    /** Layer by layer, of all ROWS to a STAND the first; null, if it does not go. */
    Way shortest(List<Cube> cubes, Stand start, int goal, int parts, int doors, Set<Integer> walls) {
        if (why(cubes, start, parts, doors, walls) != 0) return null;
        Map<Stand, String> layer = new LinkedHashMap<>();
        layer.put(start, "");
        Set<Stand> seen = new HashSet<>(layer.keySet());
        while (!layer.isEmpty()) {
            Way best = null;
            for (Map.Entry<Stand, String> e : layer.entrySet()) {
                if (cellOf(e.getKey()) == goal && (best == null || e.getValue().compareTo(best.row) < 0)) {
                    best = new Way(e.getKey(), 0, e.getValue());
                }
            }
            if (best != null) return best;
            Map<Stand, String> next = new LinkedHashMap<>();
            for (Map.Entry<Stand, String> e : layer.entrySet()) {
                for (int m = 0; m < 12; m++) {
                    Stand s = step(e.getKey(), SIGNS.charAt(m));
                    if (seen.contains(s) || why(cubes, s, parts, doors, walls) != 0) continue;
                    String row = e.getValue() + (char) ('a' + m);
                    next.merge(s, row, (a, b) -> a.compareTo(b) <= 0 ? a : b);
                }
            }
            seen.addAll(next.keySet());
            layer = next;
        }
        return null;
    }

    Way cheapest(Thing t, int parts, int doors) {
        if (why(t.cubes, t.lies, parts, doors, Set.of()) != 0) return null;
        int on = 0;
        for (Cube c : t.cubes) on += c.part >= 0 && (parts & 1 << c.part) != 0 ? 0 : 1;
        PriorityQueue<Way> queue = new PriorityQueue<>((a, b) -> a.sum != b.sum ? a.sum - b.sum
                : a.row.length() != b.row.length() ? a.row.length() - b.row.length() : a.row.compareTo(b.row));
        queue.add(new Way(t.lies, 0, ""));
        Set<Stand> done = new HashSet<>();
        while (!queue.isEmpty()) {
            Way way = queue.poll();
            if (!done.add(way.stand)) continue;
            if (cellOf(way.stand) == t.goal) return way;
            for (int m = 0; m < 12; m++) {
                Stand s = step(way.stand, SIGNS.charAt(m));
                if (done.contains(s) || why(t.cubes, s, parts, doors, Set.of()) != 0) continue;
                int cost = m < 4 ? moveCosts[0] : m == 4 ? moveCosts[1] * on : m == 5 ? moveCosts[2] : moveCosts[3];
                queue.add(new Way(s, way.sum + cost, way.row + (char) ('a' + m)));
            }
        }
        return null;
    }

    int comesTo(Thing t) {
        if (why(t.cubes, t.lies, 0, 0, Set.of()) != 0) return 0;
        List<Stand> all = new ArrayList<>(List.of(t.lies));
        Set<Stand> seen = new HashSet<>(all);
        for (int i = 0; i < all.size(); i++) {
            for (char sign : SIGNS.toCharArray()) {
                Stand s = step(all.get(i), sign);
                if (why(t.cubes, s, 0, 0, Set.of()) == 0 && seen.add(s)) all.add(s);
            }
        }
        return all.size();
    }

    Set<List<Integer>> spotsOf(Thing t) {
        Set<List<Integer>> spots = new HashSet<>();
        for (Cube c : turned(t.cubes, t.lies.turned)) {
            spots.add(Arrays.asList(t.lies.x + c.x, t.lies.y + c.y, t.lies.z + c.z));
        }
        return spots;
    }

    int scrapes(Thing t) {
        int[][] sides = {{1, 0, 0}, {-1, 0, 0}, {0, 1, 0}, {0, -1, 0}, {0, 0, 1}};
        Set<List<Integer>> own = spotsOf(t);
        int faces = 0;
        for (List<Integer> spot : own) {
            for (int[] d : sides) {
                int x = spot.get(0) + d[0], y = spot.get(1) + d[1], z = spot.get(2) + d[2];
                if (own.contains(Arrays.asList(x, y, z))) continue;
                if (!isCellAt(x, y, z) || kinds.getOrDefault(100 * x + 10 * y + z, 0) != 0) faces++;
            }
        }
        return faces;
    }

    int turnable(Thing t) {
        int n = 0;
        for (int cell = 0; cell < 1000; cell++) {
            if (!isCell(cell)) continue;
            Stand s = new Stand(cell / 100, cell / 10 % 10, cell % 10, t.lies.turned);
            boolean all = true;
            for (int q = 0; q < 4; q++) {
                all &= why(t.cubes, s, 0, 0, Set.of()) == 0;
                s = step(s, 'z');
            }
            n += all ? 1 : 0;
        }
        return n;
    }

    /** Every order is tried, by numbers; null, if there is none. */
    List<Integer> firstOrder(List<Integer> gone, List<Integer> left) {
        if (left.isEmpty()) return gone;
        for (int t : left) {
            Set<Integer> walls = new HashSet<>();
            for (int other : left) {
                if (other == t) continue;
                for (List<Integer> spot : spotsOf(things[other])) {
                    walls.add(100 * spot.get(0) + 10 * spot.get(1) + spot.get(2));
                }
            }
            Thing it = things[t];
            if (shortest(it.cubes, it.lies, it.goal, 0, 0, walls) == null) continue;
            List<Integer> goneThen = new ArrayList<>(gone), leftThen = new ArrayList<>(left);
            goneThen.add(t);
            leftThen.remove((Integer) t);
            List<Integer> order = firstOrder(goneThen, leftThen);
            if (order != null) return order;
        }
        return null;
    }
}
