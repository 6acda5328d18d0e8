import java.lang.reflect.InvocationTargetException;
import java.lang.reflect.Method;
import java.lang.reflect.Modifier;
import java.util.ArrayList;
import java.util.Comparator;
import java.util.List;
import java.util.Random;

/** No call throws, whatever its arguments and whatever the state; and the same calls give the same answers. */
public final class HostileTest {
    private static final int[] NUMBERS = {Integer.MIN_VALUE, Integer.MIN_VALUE + 1, -1000000, -100, -7, -6, -3, -2, -1, 0,
        0, 1, 1, 2, 3, 4, 5, 6, 7, 9, 10, 13, 15, 16, 23, 24, 33, 40, 45, 48, 49, 50, 61, 97, 98, 100, 101, 110, 111,
        115, 120, 122, 126, 127, 143, 144, 256, 551, 3456, 65536, Integer.MAX_VALUE - 1, Integer.MAX_VALUE};

    public static void main(String[] args) throws IllegalAccessException {
        Due due = new Due();
        List<Method> calls = new ArrayList<>();
        for (Method m : SofaStair.class.getDeclaredMethods()) if (Modifier.isPublic(m.getModifiers())) calls.add(m);
        calls.sort(Comparator.comparing(Method::getName));
        for (int seed = 0; seed < 300; seed++) {
            due.about("hostile run " + seed);
            long first = run(seed, calls, due);
            if (seed < 20) due.is("the same calls once more", run(seed, calls, due), first);
        }
        due.end();
    }

    private static long run(int seed, List<Method> calls, Due due) throws IllegalAccessException {
        Random random = new Random(seed);
        SofaStair stair = new SofaStair();
        long sum = 0;
        for (int i = 0; i < 700; i++) {
            if (random.nextInt(12) == 0) settle(stair, random);
            Method m = calls.get(random.nextInt(calls.size()));
            Object[] n = new Object[m.getParameterCount()];
            for (int k = 0; k < n.length; k++) n[k] = random.nextInt(3) == 0 ? random.nextInt(4) : NUMBERS[random.nextInt(NUMBERS.length)];
            try {
                int got = (Integer) m.invoke(stair, n);
                due.holds(m.getName() + " answers no less than -6", got >= -6);
                sum = sum * 31 + got;
            } catch (InvocationTargetException e) {
                due.is(m.getName() + java.util.Arrays.toString(n) + " threw " + e.getCause(), 1, 0);
            }
        }
        return sum;
    }

    /** So that the hostile calls find something that lies. */
    private static void settle(SofaStair stair, Random random) {
        int thing = random.nextInt(4);
        stair.wipe();
        Due.say(stair, "000-100a010b001c".substring(0, 4 + 4 * random.nextInt(4)));
        stair.thing(thing);
        Due.say(stair, "xyzXYZ".substring(random.nextInt(6)));
        stair.lay(thing, 100 * random.nextInt(6) + 10 * random.nextInt(6) + random.nextInt(4));
        stair.wipe();
    }
}
