import java.util.LinkedHashMap;
import java.util.Map;

/** TESTS of RULES: or, and, not and brackets, by every way in which their FACTS can hold or not. */
public final class LogicTest {
    interface Logic { boolean of(boolean a, boolean b, boolean c, boolean d); }

    private static final String[] HOLD = {"1=1", "1<2", "2<=2", "1<=2", "2>=2", "3>=2", "3>2"};
    private static final String[] FAIL = {"1=2", "2<2", "3<=2", "3<2", "1>=2", "2>2", "1>2"};
    private static final Calls calls = new Calls();

    public static void main(String[] args) {
        Map<String, Logic> tests = new LinkedHashMap<>();
        tests.put("A", (a, b, c, d) -> a);
        tests.put("[A]", (a, b, c, d) -> a);
        tests.put("not A", (a, b, c, d) -> !a);
        tests.put("not [A]", (a, b, c, d) -> !a);
        tests.put("not not A", (a, b, c, d) -> a);
        tests.put("A and B", (a, b, c, d) -> a && b);
        tests.put("A or B", (a, b, c, d) -> a || b);
        tests.put("not A and B", (a, b, c, d) -> !a && b);
        tests.put("A and not B", (a, b, c, d) -> a && !b);
        tests.put("not A or B", (a, b, c, d) -> !a || b);
        tests.put("A or not B", (a, b, c, d) -> a || !b);
        tests.put("A and [B]", (a, b, c, d) -> a && b);
        tests.put("A or [B]", (a, b, c, d) -> a || b);
        tests.put("not [A and B]", (a, b, c, d) -> !(a && b));
        tests.put("not [A or B]", (a, b, c, d) -> !(a || b));
        tests.put("A or B or C", (a, b, c, d) -> a || b || c);
        tests.put("A and B and C", (a, b, c, d) -> a && b && c);
        tests.put("A and B or C", (a, b, c, d) -> a && b || c);
        tests.put("A or B and C", (a, b, c, d) -> a || b && c);
        tests.put("A and [B or C]", (a, b, c, d) -> a && (b || c));
        tests.put("[A or B] and C", (a, b, c, d) -> (a || b) && c);
        tests.put("not [A or B] and C", (a, b, c, d) -> !(a || b) && c);
        tests.put("A or [B and [C]]", (a, b, c, d) -> a || b && c);
        tests.put("A and not [B or not C]", (a, b, c, d) -> a && !(b || !c));
        tests.put("A or B or C or D", (a, b, c, d) -> a || b || c || d);
        tests.put("A and B and C and D", (a, b, c, d) -> a && b && c && d);
        tests.put("A and B or C and D", (a, b, c, d) -> a && b || c && d);
        tests.put("A or B and C or D", (a, b, c, d) -> a || b && c || d);
        tests.put("A or B and [C or D]", (a, b, c, d) -> a || b && (c || d));
        tests.put("[A or B] and [C or D]", (a, b, c, d) -> (a || b) && (c || d));
        tests.put("A or B and C and D", (a, b, c, d) -> a || b && c && d);
        tests.put("A and B and C or D", (a, b, c, d) -> a && b && c || d);
        for (Map.Entry<String, Logic> test : tests.entrySet()) allWays(test.getKey(), test.getValue());
        calls.close("LogicTest");
    }

    private static void allWays(String test, Logic logic) {
        for (int way = 0; way < 16; way++) {
            boolean[] holds = new boolean[4];
            for (int i = 0; i < 4; i++) holds[i] = (way >> i & 1) == 1;
            for (int sign = 0; sign < HOLD.length; sign++) {
                String text = test;
                for (int i = 0; i < 4; i++) {
                    text = text.replace((char) ('A' + i) + "", (holds[i] ? HOLD : FAIL)[(sign + 2 * i) % HOLD.length]);
                }
                HollowBed x = Calls.bedsOf("city 9 1;bed 40 0 9;lodger 50 2 3", "lie 1 if " + text);
                calls.due(text, x.night(), logic.of(holds[0], holds[1], holds[2], holds[3]) ? 1 : 0);
            }
        }
    }
}
