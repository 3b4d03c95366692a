import java.lang.reflect.InvocationTargetException;
import java.lang.reflect.Method;
import java.lang.reflect.Modifier;
import java.util.ArrayList;
import java.util.Comparator;
import java.util.List;
import java.util.Random;

/** LANGUAGE.md, rule 7: no call throws, for any arguments in any state. Ints at and just beyond every bound that there is. */
public final class AnyArgumentTests {
    private static final int[] INTS = {Integer.MIN_VALUE, Integer.MIN_VALUE + 1, -65536, -1440, -300, -32, -12, -5, -2, -1, 0, 1, 2, 3, 4, 5, 6,
        7, 8, 9, 10, 11, 12, 13, 15, 16, 20, 23, 24, 25, 30, 31, 32, 33, 36, 48, 49, 55, 56, 63, 64, 98, 99, 100, 255, 256, 280, 281, 299, 300, 301,
        479, 480, 481, 1023, 1024, 1439, 1440, 1441, 1999, 2000, 2036, 4095, 4096, 9999, 10000, 30097, 65536, 0x28282828, 0x2D2D2D2D,
        0x6E6F7420, 0x3B3B3B3B, Integer.MAX_VALUE - 1, Integer.MAX_VALUE};
    private static final int CALLS = 400;

    public static void main(String[] args) throws IllegalAccessException {
        List<Method> methods = new ArrayList<>();
        for (Method m : ShipUnstopped.class.getDeclaredMethods()) {
            if (Modifier.isPublic(m.getModifiers())) {
                methods.add(m);
            }
        }
        // the order that reflection gives isn't told, and the draws must be the same each time
        methods.sort(Comparator.comparing(Method::getName));
        Due.is("methods", methods.size(), 28);
        for (int seed = 0; seed < 300; seed++) {
            run(methods, new Random(seed), seed % 14 - 1, seed % 3);
        }
        Due.close("AnyArgumentTests");
    }

    private static void run(List<Method> methods, Random draw, int places, int start) throws IllegalAccessException {
        ShipUnstopped x = new ShipUnstopped(places);
        if (start > 0) {
            Twins.fill(x);
        }
        if (start > 1) {
            Due.rule(x, "speed sail+last*wind-place/2;draught fast+weight/20-hour/3;tide place*hour<25 or weight=0 and not hour=3;");
        }
        for (int i = 0; i < CALLS; i++) {
            Method m = methods.get(draw.nextInt(methods.size()));
            Class<?>[] types = m.getParameterTypes();
            Object[] given = new Object[types.length];
            StringBuilder told = new StringBuilder(m.getName());
            for (int p = 0; p < given.length; p++) {
                given[p] = types[p] == boolean.class ? (Object) draw.nextBoolean() : (Object) anyInt(x, draw);
                told.append(' ').append(given[p]);
            }
            boolean answers = true;
            try {
                m.invoke(x, given);
            } catch (InvocationTargetException e) {
                told.append(" threw ").append(e.getCause());
                answers = false;
            }
            Due.yes(told.toString(), answers);
        }
    }

    private static int anyInt(ShipUnstopped x, Random draw) {
        return switch (draw.nextInt(8)) {
            case 0 -> draw.nextInt();
            case 1 -> x.ship(0);
            case 2 -> draw.nextInt(1500);
            case 3 -> draw.nextInt(13) - 1;
            default -> INTS[draw.nextInt(INTS.length)];
        };
    }
}
