import java.lang.reflect.InvocationTargetException;
import java.lang.reflect.Method;
import java.util.ArrayList;
import java.util.List;

/**
 * Calls told as text, a new line or " | " between them, done on a SofaStair or a Model:
 * <pre>
 * size(3, 3, 1) = 9          the answer is 9; or one of the constants, or a sign: 'e'
 * lay(0, 0)                  the answer is not a refusal
 * say 000-100a               each sign is said
 * FAULT(0) 000-1 = 5         THE FAULT of a text that is alone on the PAD
 * JUDGED(0) ee = 1 2         the MOVE and why, of a ROW that is alone on the PAD; or NONE
 * GOES(0, 0, 0) = ssee       the whole ROW, and what is asked beside its ends; . is one without MOVES
 * EFFORT(0, 0, 0) = 4 ssee   the sum and the whole ROW
 * LEAST(0) = 3 1 2           cost, PARTS, DOORS; or NONE
 * CAME(0) = 8 1              how many sets, DOORS in each
 * ORDER(3) = 1 0             the whole order; or NONE
 * CUBES(0) = 00- 10a         x and y and z of each CUBE as it lies, and what it is of
 * </pre>
 */
final class Script {
    private static final int MOST_CALLS = 512;

    private final Due due;
    private final Object target;
    private int calls;

    Script(Due due, Object target) {
        this.due = due;
        this.target = target;
    }

    static List<String> split(String lines) {
        List<String> calls = new ArrayList<>();
        for (String call : lines.split("\n| \\| (?=[A-Za-z]+[( ])")) if (!call.isBlank()) calls.add(call.trim());
        return calls;
    }

    void run(String lines) {
        for (String line : split(lines)) runOne(line);
        due.holds("no more than 512 calls on one object: " + calls, calls <= MOST_CALLS);
    }

    private void runOne(String line) {
        if (line.startsWith("say ")) {
            say(line.substring(4));
            return;
        }
        int end = line.indexOf(')');
        int[] n = numbers(line.substring(line.indexOf('(') + 1, end));
        String name = line.substring(0, line.indexOf('('));
        int equals = line.lastIndexOf(" = ");
        String want = equals < 0 ? "" : line.substring(equals + 3).trim();
        String text = line.substring(end + 1, equals < 0 ? line.length() : equals).trim();
        switch (name) {
            case "FAULT": is(line, faultOf(text, n[0]), want); break;
            case "JUDGED": judged(line, n[0], text, want.split(" ")); break;
            case "GOES": row(line, "goes", n, want.replace(".", "").length() + " " + want); break;
            case "EFFORT": row(line, "effort", n, want); break;
            case "LEAST": answers(line, "least", n[0], 3, want); break;
            case "CAME": answers(line, "came", n[0], 2, want); break;
            case "ORDER": order(line, n[0], want.equals("NONE") ? new String[0] : want.split(" ")); break;
            case "CUBES": cubes(line, n[0], want.split(" ")); break;
            default: is(line, call(name, n), want);
        }
    }

    private void is(String call, int got, String want) {
        if (want.isEmpty()) due.holds(target.getClass() + " " + call + " answered " + got + ", no refusal", got >= 0);
        else due.is(target.getClass() + " " + call, got, number(want));
    }

    void say(String text) {
        for (char sign : text.toCharArray()) due.holds("say " + sign, call("say", sign) > 0);
    }

    private int faultOf(String text, int how) {
        call("wipe");
        say(text);
        int fault = call("fault", how);
        due.is("signs of " + text, call("wipe"), text.length());
        return fault;
    }

    private void judged(String line, int thing, String row, String[] want) {
        call("wipe");
        say(row);
        is(line, call("judge", thing, 0), want[0]);
        is(line, call("judge", thing, 1), want[want.length - 1]);
        due.is("signs of " + row, call("wipe"), row.length());
    }

    private void row(String line, String name, int[] n, String want) {
        String row = want.substring(want.indexOf(' ') + 1).replace(".", "");
        is(line, call(name, n[0], n[1], n[2], -1), want.substring(0, want.indexOf(' ')));
        for (int i = 0; i < row.length(); i++) {
            due.is(target.getClass() + " " + line + " at " + i, call(name, n[0], n[1], n[2], i), row.charAt(i));
        }
        for (int i : new int[] {row.length(), row.length() + 1, -2, Integer.MAX_VALUE, Integer.MIN_VALUE}) {
            due.is(target.getClass() + " " + line + " at " + i, call(name, n[0], n[1], n[2], i), SofaStair.NONE);
        }
    }

    private void answers(String line, String name, int thing, int count, String want) {
        String[] each = want.split(" ");
        for (int what = 0; what < count; what++) {
            is(line, call(name, thing, what), each[Math.min(what, each.length - 1)]);
        }
    }

    private void order(String line, int set, String[] want) {
        for (int i = 0; i < want.length; i++) is(line, call("order", set, i), want[i]);
        for (int i : new int[] {-1, want.length, want.length + 1, 4, Integer.MIN_VALUE, Integer.MAX_VALUE}) {
            due.is(target.getClass() + " " + line + " at " + i, call("order", set, i), SofaStair.NONE);
        }
    }

    private void cubes(String line, int thing, String[] want) {
        due.is(line, call("told", 10 + thing), want.length);
        for (int cube = 0; cube < want.length; cube++) {
            for (int what = 0; what < 3; what++) {
                due.is(target.getClass() + " " + line + " CUBE " + cube, call("cube", thing, cube, what),
                        want[cube].charAt(what) - '0');
            }
            char of = want[cube].charAt(3);
            due.is(target.getClass() + " " + line + " CUBE " + cube, call("cube", thing, cube, 3),
                    of == '-' ? SofaStair.NONE : of - 'a');
        }
    }

    int call(String name, int... n) {
        calls++;
        try {
            for (Method m : target.getClass().getDeclaredMethods()) {
                if (m.getName().equals(name) && m.getParameterCount() == n.length && m.getReturnType() == int.class) {
                    Object[] numbers = new Object[n.length];
                    for (int i = 0; i < n.length; i++) numbers[i] = n[i];
                    return (Integer) m.invoke(target, numbers);
                }
            }
        } catch (InvocationTargetException e) {
            due.is(name + java.util.Arrays.toString(n) + " threw " + e.getCause(), 1, 0);
            return Integer.MIN_VALUE;
        } catch (IllegalAccessException e) {
            throw new IllegalStateException(e);
        }
        throw new IllegalStateException("no such call: " + name);
    }

    int calls() {
        return calls;
    }

    private static int[] numbers(String list) {
        if (list.isBlank()) return new int[0];
        String[] each = list.split(",");
        int[] n = new int[each.length];
        for (int i = 0; i < n.length; i++) n[i] = number(each[i].trim());
        return n;
    }

    private static int number(String text) {
        switch (text) {
            case "UNKNOWN": return -1;
            case "OUTSIDE": return -2;
            case "STATE": return -3;
            case "FULL": return -4;
            case "NO": return -5;
            case "NONE": return -6;
            case "MIN": return Integer.MIN_VALUE;
            case "MAX": return Integer.MAX_VALUE;
            default: return text.length() == 3 && text.charAt(0) == '\'' ? text.charAt(1) : Integer.parseInt(text);
        }
    }
}
