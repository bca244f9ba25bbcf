import java.lang.reflect.Method;
import java.nio.charset.StandardCharsets;
import java.util.ArrayList;
import java.util.Arrays;
import java.util.List;
import java.util.Random;

/** Drawn runs of calls, each answered by HollowBed as by ModelBed; the draws are always the same. */
public final class ModelTest {
    private static final int RUNS = 600;
    private static final int CALLS = 200;
    private static final String[] ASKS = {"ahead", "comes", "row", "tonight", "turned", "lain", "twins",
        "settled", "best", "rests", "rent", "ruled", "look", "mays", "count", "bed", "lodger"};
    private static final String[] ACTS = {"night", "night", "night", "night", "turn", "stuff", "burn",
        "lead", "undo", "note", "note", "force", "seed", "image", "back"};

    private final Calls calls = new Calls();
    private final Random random = new Random(20261118);
    private HollowBed real;
    private ModelBed model;
    private final List<String> said = new ArrayList<>();

    public static void main(String[] args) throws Exception {
        ModelTest test = new ModelTest();
        for (int run = 0; run < RUNS; run++) {
            test.run(run);
        }
        test.texts();
        test.calls.close("ModelTest");
    }

    private void run(int run) throws Exception {
        real = new HollowBed();
        model = new ModelBed();
        said.clear();
        int rules = random.nextInt(7);
        for (int i = 0; i < rules; i++) {
            text(ruleText(), "rule");
        }
        if (random.nextInt(10) > 0) text(cityText(), "city");
        call("force", random.nextInt(rules + 1) - 1);
        if (random.nextInt(20) == 0) {
            for (int i = 0; i < 1010; i++) quietNight();
        }
        for (int i = 0; i < CALLS; i++) {
            step();
        }
    }

    private void quietNight() {
        int a = real.night();
        int b = model.night();
        if (a != b) calls.due("night", a, b);
    }

    private void step() throws Exception {
        int way = random.nextInt(100);
        if (way < 1) {
            text(cityText(), "city");
        } else if (way < 2) {
            text(ruleText(), "rule");
        } else if (way < 3) {
            text(spoilt(random.nextBoolean() ? cityText() : ruleText()), random.nextBoolean() ? "city" : "rule");
        } else if (way < 50) {
            drawn(ACTS[random.nextInt(ACTS.length)]);
        } else {
            drawn(ASKS[random.nextInt(ASKS.length)]);
        }
        for (int what = 5; what < 14; what++) call("count", what);
    }

    /** Texts alone, many of them spoilt, as FAULTS are many. */
    private void texts() throws Exception {
        for (int i = 0; i < 40000; i++) {
            real = new HollowBed();
            model = new ModelBed();
            said.clear();
            boolean city = random.nextInt(3) == 0;
            String text = city ? cityText() : random.nextInt(4) == 0 ? longRuleText() : ruleText();
            for (int j = random.nextInt(4); j > 0; j--) text = spoilt(text);
            text(text, city ? "city" : "rule");
        }
    }

    private void drawn(String name) throws Exception {
        int lodgers = real.count(3);
        int beds = real.count(2);
        int bed = edge(0, beds - 1);
        int lodger = edge(0, lodgers - 1);
        switch (name) {
            case "night", "undo" -> call(name);
            case "turn", "burn" -> call(name, bed);
            case "stuff" -> call(name, bed, edge(1, 9));
            case "lead" -> call(name, lodger, bed);
            case "note" -> drawnNote(lodger);
            case "force" -> call(name, edge(-1, real.count(4) - 1));
            case "seed" -> call(name, random.nextInt() >> random.nextInt(31));
            case "image", "back" -> call(name, edge(0, 3));
            case "ahead" -> call(name, random.nextBoolean() ? bed : lodger, edge(0, 100), edge(0, 3));
            case "comes" -> call(name, lodger, drawnShape(lodger));
            case "row" -> call(name, lodger, edge(1, 4), edge(0, 4));
            case "tonight" -> call(name, edge(-1, 5));
            case "turned", "best" -> call(name, edge(1, 60), edge(0, 1));
            case "lain" -> call(name, bed, drawnHollow(bed), edge(0, 2));
            case "twins" -> call(name, edge(0, 100), edge(0, 2));
            case "settled", "ruled" -> call(name, edge(0, 1));
            case "rests" -> call(name, lodger, edge(0, lodgers - 1), edge(1, 20), edge(0, 2));
            case "rent" -> call(name, edge(0, 9999), lodger);
            case "look" -> call(name, edge(0, 60), edge(0, 1));
            case "mays" -> call(name, edge(1, 10), edge(1, 60), edge(0, 100), edge(0, 1));
            case "count" -> call(name, edge(0, 13));
            case "bed" -> call(name, bed, edge(0, 3));
            default -> call(name, lodger, edge(0, 5));
        }
    }

    /** Mostly a NOTE that some RULE makes true, so that RULES stay to be told apart. */
    private void drawnNote(int lodger) throws Exception {
        if (random.nextInt(8) == 0) {
            call("note", random.nextBoolean() ? -1 : edge(0, 60), lodger, edge(-1, real.count(2) - 1));
            return;
        }
        int n = random.nextInt(4);
        int where = real.count(6) == 0 ? real.ahead(lodger, n + 1, 1) : edge(-1, real.count(2) - 1);
        call("note", n, lodger, where);
    }

    private int drawnShape(int lodger) {
        int seen = real.ahead(lodger, random.nextInt(101), 0);
        return random.nextInt(3) == 0 || seen < 0 ? edge(0, 99) : seen;
    }

    private int drawnHollow(int bed) {
        int seen = real.ahead(bed, random.nextInt(2), 2);
        return random.nextInt(4) == 0 || seen < 0 ? edge(0, 99) : seen + random.nextInt(5) - 2;
    }

    /** Mostly within, now and then just beyond, seldom far beyond. */
    private int edge(int low, int high) {
        int way = random.nextInt(40);
        if (way == 0) return low - 1;
        if (way == 1) return high + 1;
        if (way == 2) return random.nextInt();
        if (way < 6) return high;
        if (way < 9) return low;
        return low + random.nextInt(Math.max(1, high - low + 1));
    }

    private void text(String text, String name) throws Exception {
        byte[] bytes = text.getBytes(StandardCharsets.ISO_8859_1);
        call("end", 0);
        for (int at = 0; at < bytes.length; at += 20) {
            call("feed", Calls.number(bytes, at), Calls.number(bytes, at + 4), Calls.number(bytes, at + 8),
                Calls.number(bytes, at + 12), Calls.number(bytes, at + 16));
        }
        call("end", Math.min(400, bytes.length));
        said.add("\"" + text + "\"");
        call(name);
    }

    private void call(String name, Object... args) throws Exception {
        Class<?>[] types = new Class<?>[args.length];
        Arrays.fill(types, int.class);
        Method ours = HollowBed.class.getMethod(name, types);
        Method theirs = ModelBed.class.getMethod(name, types);
        int got = (int) ours.invoke(real, args);
        int want = (int) theirs.invoke(model, args);
        String row = name + Arrays.toString(args);
        if (!name.equals("count") && !name.equals("feed") && !name.equals("end")) said.add(row + " " + want);
        calls.due(got == want ? row : said + "\n" + row, got, want);
        if (got != want) calls.close("ModelTest stops at the first difference");
    }

    // ------------------------------------------------------------------ texts

    private String blanks() {
        return " ".repeat(random.nextInt(8) == 0 ? random.nextInt(3) : 0);
    }

    private int upTo(int low, int high) {
        return low + random.nextInt(high - low + 1);
    }

    private String cityText() {
        int card = random.nextInt(3) == 0 ? upTo(1, 60) : upTo(1, 8);
        StringBuilder text = new StringBuilder("city " + card + " " + upTo(1, random.nextBoolean() ? 6 : 2));
        int beds = random.nextInt(6);
        int lodgers = random.nextInt(7);
        while (beds + lodgers > 0) {
            text.append(blanks()).append(";").append(blanks());
            if (random.nextInt(beds + lodgers) < beds) {
                beds--;
                text.append("bed ").append(upTo(0, 99)).append(" ").append(upTo(0, 99)).append(" ").append(upTo(1, 9));
            } else {
                lodgers--;
                text.append("lodger ").append(upTo(0, 99)).append(" ").append(upTo(1, 9)).append(" ").append(upTo(0, 99));
            }
        }
        return text.append(blanks()).toString();
    }

    private String ruleText() {
        StringBuilder text = new StringBuilder();
        if (random.nextInt(8) == 0) {
            for (int i = upTo(8, 11); i > 0; i--) {
                text.append("lie ").append(value()).append(" if ").append(value()).append("<").append(value()).append(";");
            }
            return text.append("lie ").append(value()).toString();
        }
        for (int i = random.nextInt(3); i >= 0; i--) {
            text.append(blanks()).append("lie ").append(sum());
            if (i > 0 || random.nextInt(3) == 0) text.append(" if ").append(test(2));
            if (i > 0) text.append(";");
        }
        return text.toString();
    }

    /** Near the limits of depth, of VALUES and of CLAUSES. */
    private String longRuleText() {
        StringBuilder text = new StringBuilder();
        for (int i = upTo(0, 12); i >= 0; i--) {
            text.append("lie ").append(sum());
            if (random.nextBoolean()) text.append(" if ").append(test(random.nextInt(12)));
            if (i > 0) text.append(";");
        }
        return text.toString();
    }

    private String test(int deep) {
        StringBuilder text = new StringBuilder(fact(deep));
        for (int i = random.nextInt(3); i > 0; i--) {
            text.append(random.nextBoolean() ? " and " : " or ").append(fact(deep));
        }
        return text.toString();
    }

    private String fact(int deep) {
        String[] signs = {"<", "<=", "=", ">=", ">"};
        int way = random.nextInt(4);
        if (deep > 0 && way == 0) return "not " + blanks() + fact(deep - 1);
        if (deep > 0 && way == 1) return "[" + test(deep - 1) + "]";
        return sum() + blanks() + signs[random.nextInt(5)] + blanks() + sum();
    }

    private String sum() {
        StringBuilder text = new StringBuilder(value());
        for (int i = random.nextInt(4); i > 0; i--) {
            text.append(blanks()).append("+-*/%+-".charAt(random.nextInt(7))).append(blanks()).append(value());
        }
        return text.toString();
    }

    private String value() {
        int way = random.nextInt(5);
        if (way == 0) return String.valueOf(upTo(0, 120));
        if (way == 1 && random.nextInt(4) == 0) return String.valueOf(upTo(0, 99999));
        return ModelBed.WORDS.get(random.nextInt(12));
    }

    private String spoilt(String text) {
        String[] bits = {"[", "]", ";", " ", "1", "0", "99", "=", "<", "+", "not ", "if ", "lie ", "bed ", "city ",
            "lodger ", "and ", "or ", "x", ",", "100000", String.valueOf((char) 200), String.valueOf((char) 0)};
        int at = random.nextInt(text.length() + 1);
        int to = Math.min(text.length(), at + random.nextInt(3));
        int way = random.nextInt(4);
        if (way == 0) return text.substring(0, at);
        if (way == 1) return text.substring(0, at) + text.substring(to);
        String bit = bits[random.nextInt(bits.length)];
        return text.substring(0, at) + bit + text.substring(way == 2 ? at : to);
    }
}
