import java.lang.reflect.InvocationTargetException;
import java.lang.reflect.Method;
import java.lang.reflect.Modifier;
import java.util.ArrayList;
import java.util.Comparator;
import java.util.List;
import java.util.Random;

/** Any calls with any arguments in any state: nothing throws, and what is refused changes nothing. */
public final class WildCallsTest {
    private static final int OBJECTS = 600, CALLS = 512;
    private static final Random RANDOM = new Random(4711);
    private static final int[] WILD = {Integer.MIN_VALUE, Integer.MAX_VALUE, -9, -2, -1, 12, 13, 60, 61, 120, 121, 255};
    private static final String[] VILLAGES = {
        "pha1-3a6-8 pka2-5 ps pmAa3-7 plBa8-9 pya0-11 dAB:10:2dBA:20:1dDF:5:9dEC:7:3dFD:30:0dFE:12:4",
        "pha0-11pha0-11pha0-11 dAB:1:1dAB:1:1dAB:1:1dAC:1:1dBC:1:1dCA:9:9dBA:9:8dCB:1:0",
        "ph ph dAB:9:9dBA:9:9", "", "py"};

    public static void main(String[] args) throws IllegalAccessException {
        List<Method> face = new ArrayList<>();
        for (Method method : EmptyHouse.class.getDeclaredMethods()) {
            if (Modifier.isPublic(method.getModifiers())) {
                face.add(method);
            }
        }
        // Reflection tells methods in no certain order, the same run is wanted each time.
        face.sort(Comparator.comparing(Method::getName));
        for (int i = 0; i < OBJECTS; i++) {
            EmptyHouse x = i % 6 == 5 ? new EmptyHouse() : Due.village(VILLAGES[i % 6]);
            for (int call = 0; call < CALLS; call++) {
                wildCall(x, face.get(RANDOM.nextInt(face.size())));
            }
        }
        Due.end();
    }

    private static void wildCall(EmptyHouse x, Method method) throws IllegalAccessException {
        Object[] arguments = new Object[method.getParameterCount()];
        for (int i = 0; i < arguments.length; i++) {
            boolean wild = RANDOM.nextInt(12) == 0;
            arguments[i] = wild ? WILD[RANDOM.nextInt(WILD.length)] : RANDOM.nextInt(RANDOM.nextBoolean() ? 4 : 13);
        }
        long before = x.digest();
        int asked = x.asked();
        try {
            long answer = ((Number) method.invoke(x, arguments)).longValue();
            boolean tells = method.getName().equals("asked") || method.getName().equals("digest");
            boolean refused = answer < 0 && !tells;
            if (refused && (x.digest() != before || x.asked() != asked)) {
                Due.is(method.getName() + java.util.Arrays.toString(arguments) + " changed something", 1, 0);
            }
            if (refused && answer != -1 && answer != -3 && answer != -4 && answer != -9) {
                Due.is(method.getName() + java.util.Arrays.toString(arguments) + " refuses by", answer, 0);
            }
            Due.is("lower", x.lower(), 1);
        } catch (InvocationTargetException thrown) {
            thrown.getCause().printStackTrace(System.out);
            Due.is(method.getName() + java.util.Arrays.toString(arguments) + " threw", 1, 0);
        }
    }
}
