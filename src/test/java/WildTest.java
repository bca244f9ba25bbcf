import java.lang.reflect.InvocationTargetException;
import java.lang.reflect.Method;
import java.lang.reflect.Modifier;
import java.util.ArrayList;
import java.util.Comparator;
import java.util.List;
import java.util.Random;

/** Any numbers in any state: no call throws, and a refused call changes nothing that can be counted. */
public final class WildTest {
    private static final int[] EDGES = {Integer.MIN_VALUE, Integer.MAX_VALUE, -3, -2, -1, 0, 1, 2, 3, 4, 5, 6, 7, 9, 10, 13, 14,
        19, 20, 21, 59, 60, 61, 98, 99, 100, 101, 200, 400, 401, 999, 9999, 10000};
    private static final String[] CITIES = {"city 1 1", "city 60 6;bed 0 99 1;bed 99 0 9", "city 3 2;lodger 0 1 99",
        "city 2 1;bed 0 0 1;bed 99 99 1;bed 50 50 9;bed 1 2 3;bed 4 5 6;lodger 0 9 99;lodger 99 1 0;lodger 1 2 3;lodger 50 5 50;"
            + "lodger 4 4 4;lodger 7 7 7"};
    private static final String[] RULES = {"lie 99999*99999*99999*99999*99999%bed", "lie 1/0;lie 1%0 if 1/0=0",
        "lie near if not not not [[[[hollow>shape]]]] and last=0;lie 1+room", "lie night%5-bed+2"};

    public static void main(String[] args) throws Exception {
        Calls calls = new Calls();
        List<Method> face = new ArrayList<>();
        for (Method m : HollowBed.class.getDeclaredMethods()) {
            if (Modifier.isPublic(m.getModifiers())) face.add(m);
        }
        face.sort(Comparator.comparing(Method::getName));
        calls.due("public methods", face.size(), 32);
        Random random = new Random(7);
        for (int run = 0; run < 600; run++) {
            wildRun(calls, face, random);
        }
        calls.close("WildTest");
    }

    private static void wildRun(Calls calls, List<Method> face, Random random) throws Exception {
        HollowBed x = new HollowBed();
        if (random.nextInt(8) > 0) Calls.city(x, CITIES[random.nextInt(CITIES.length)]);
        for (int i = random.nextInt(7); i > 0; i--) Calls.rule(x, RULES[random.nextInt(RULES.length)]);
        x.force(random.nextInt(x.count(4) + 1) - 1);
        for (int i = 0; i < 450; i++) {
            Method m = face.get(random.nextInt(face.size()));
            if (m.getName().equals("city") && random.nextInt(10) > 0) continue;
            Object[] args = new Object[m.getParameterCount()];
            for (int k = 0; k < args.length; k++) {
                args[k] = random.nextInt(30) == 0 ? random.nextInt() : EDGES[random.nextInt(EDGES.length)];
                if (random.nextBoolean()) args[k] = random.nextInt(6);
            }
            try {
                m.invoke(x, args);
            } catch (InvocationTargetException thrown) {
                calls.due(m.getName() + java.util.Arrays.toString(args) + " threw " + thrown.getCause(), 1, 0);
            }
        }
        for (int bed = 0; bed < x.count(2); bed++) {
            calls.due("HOLLOW within 0 to 99", x.bed(bed, 0) >= 0 && x.bed(bed, 0) <= 99 ? 1 : 0, 1);
        }
    }
}
