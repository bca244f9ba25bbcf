import java.nio.charset.StandardCharsets;
import java.util.ArrayDeque;
import java.util.ArrayList;
import java.util.Deque;
import java.util.HashMap;
import java.util.List;
import java.util.Map;

/**
 * The document told again in the plainest way, with the whole Java library and every question
 * answered by trying all there is; ModelTest compares HollowBed with it.
 */
public final class ModelBed {
    static final class Fault extends RuntimeException {
        final int place;
        final int kind;

        Fault(int place, int kind) {
            this.place = place;
            this.kind = kind;
        }
    }

    record Token(String text, int place) { }

    interface Num { long of(City c, int l, int b, int[] lying); }

    interface Fact { boolean of(City c, int l, int b, int[] lying); }

    record Clause(Num sum, Fact test) { }

    record Bed(int hollow, int under, int stuff) { }

    record Lodger(int shape, int body, int wants, int last, int slept) {
        int far() {
            return Math.abs(shape - wants);
        }
    }

    record City(int card, int room, int night, List<Bed> beds, List<Lodger> lodgers) {
        int far() {
            return lodgers.stream().mapToInt(Lodger::far).sum();
        }

        int hollows() {
            return beds.stream().mapToInt(Bed::hollow).sum();
        }

        City withBed(int i, Bed bed) {
            List<Bed> changed = new ArrayList<>(beds);
            changed.set(i, bed);
            return new City(card, room, night, changed, lodgers);
        }

        City turned(int i) {
            Bed b = beds.get(i);
            return withBed(i, new Bed(b.under, b.hollow, b.stuff));
        }

        City withCard(int other) {
            return new City(other, room, night, beds, lodgers);
        }
    }

    record Note(int n, int lodger, int bed) { }

    record Image(City city, City told, int force, int x, List<Note> notes, Deque<City> past) { }

    /** Where a LODGER lies in place of what the RULE says, by (LODGER, BED or -1); null: by it. */
    interface Held { Integer of(int lodger); }

    // ------------------------------------------------------------------ texts

    static final List<String> WORDS = List.of("lodger", "bed", "shape", "body", "wants", "hollow",
        "under", "stuff", "room", "last", "near", "night");

    private List<Token> tokens;
    private int at;
    private int items;

    private static List<Token> split(String text) {
        List<Token> found = new ArrayList<>();
        int i = 0;
        while (i < text.length()) {
            int j = i + 1;
            char c = text.charAt(i);
            if (c == ' ') {
                i++;
                continue;
            }
            if (Character.toString(c).matches("[a-z]")) {
                while (j < text.length() && text.substring(j, j + 1).matches("[a-z]")) j++;
            } else if (Character.toString(c).matches("[0-9]")) {
                while (j < text.length() && text.substring(j, j + 1).matches("[0-9]")) j++;
            } else if ((c == '<' || c == '>') && j < text.length() && text.charAt(j) == '=') {
                j++;
            }
            found.add(new Token(text.substring(i, j), i));
            i = j;
        }
        found.add(new Token("", text.length()));
        return found;
    }

    private Token peek() {
        return tokens.get(at);
    }

    private boolean on(String text) {
        if (peek().text.equals(text)) {
            at++;
            return true;
        }
        return false;
    }

    private int number(int low, int high) {
        Token t = peek();
        if (!t.text.matches("[0-9]+")) throw new Fault(t.place, 0);
        if (t.text.length() > 5) throw new Fault(t.place, 1);
        int n = Integer.parseInt(t.text);
        if (n < low || n > high) throw new Fault(t.place, 1);
        at++;
        return n;
    }

    private City parseCity(String text) {
        tokens = split(text);
        at = 0;
        List<Bed> bs = new ArrayList<>();
        List<Lodger> ls = new ArrayList<>();
        int card = 0;
        int room = 0;
        do {
            Token t = peek();
            if (!List.of("city", "bed", "lodger").contains(t.text)) throw new Fault(t.place, 0);
            at++;
            boolean many = t.text.equals("bed") && bs.size() == 5 || t.text.equals("lodger") && ls.size() == 6;
            if ((card == 0) != t.text.equals("city") || many) throw new Fault(t.place, 4);
            switch (t.text) {
                case "city" -> {
                    card = number(1, 60);
                    room = number(1, 6);
                }
                case "bed" -> bs.add(new Bed(number(0, 99), number(0, 99), number(1, 9)));
                default -> ls.add(new Lodger(number(0, 99), number(1, 9), number(0, 99), -1, 0));
            }
        } while (on(";"));
        if (!peek().text.isEmpty()) throw new Fault(peek().place, 0);
        return new City(card, room, 0, bs, ls);
    }

    private List<Clause> parseRule(String text) {
        tokens = split(text);
        at = 0;
        items = 0;
        List<Clause> clauses = new ArrayList<>();
        do {
            Token t = peek();
            if (!on("lie")) throw new Fault(t.place, 0);
            if (clauses.size() == 12) throw new Fault(t.place, 4);
            Num sum = sum();
            clauses.add(new Clause(sum, on("if") ? test(0) : null));
        } while (on(";"));
        if (!peek().text.isEmpty()) throw new Fault(peek().place, 0);
        return clauses;
    }

    private Fact test(int depth) {
        Fact left = part(depth);
        while (on("or")) {
            Fact a = left;
            Fact b = part(depth);
            left = (c, l, e, y) -> a.of(c, l, e, y) || b.of(c, l, e, y);
        }
        return left;
    }

    private Fact part(int depth) {
        Fact left = fact(depth);
        while (on("and")) {
            Fact a = left;
            Fact b = fact(depth);
            left = (c, l, e, y) -> a.of(c, l, e, y) && b.of(c, l, e, y);
        }
        return left;
    }

    private Fact fact(int depth) {
        Token t = peek();
        if ((t.text.equals("[") || t.text.equals("not")) && depth == 10) throw new Fault(t.place, 2);
        if (on("not")) {
            Fact a = fact(depth + 1);
            return (c, l, e, y) -> !a.of(c, l, e, y);
        }
        if (on("[")) {
            Fact a = test(depth + 1);
            if (!on("]")) throw new Fault(peek().place, 0);
            return a;
        }
        Num a = sum();
        Token sign = peek();
        if (!List.of("<", "<=", "=", ">=", ">").contains(sign.text)) throw new Fault(sign.place, 0);
        if (++items > 60) throw new Fault(sign.place, 3);
        at++;
        Num b = sum();
        return (c, l, e, y) -> {
            int way = Long.compare(a.of(c, l, e, y), b.of(c, l, e, y));
            return switch (sign.text) {
                case "<" -> way < 0;
                case "<=" -> way <= 0;
                case "=" -> way == 0;
                case ">=" -> way >= 0;
                default -> way > 0;
            };
        };
    }

    private Num sum() {
        Num left = term();
        while (true) {
            Num a = left;
            if (on("+")) {
                Num b = term();
                left = (c, l, e, y) -> a.of(c, l, e, y) + b.of(c, l, e, y);
            } else if (on("-")) {
                Num b = term();
                left = (c, l, e, y) -> a.of(c, l, e, y) - b.of(c, l, e, y);
            } else {
                return left;
            }
        }
    }

    private Num term() {
        Num left = value();
        while (true) {
            Num a = left;
            if (on("*")) {
                Num b = value();
                left = (c, l, e, y) -> a.of(c, l, e, y) * b.of(c, l, e, y);
            } else if (on("/")) {
                Num b = value();
                left = (c, l, e, y) -> b.of(c, l, e, y) == 0 ? 0 : a.of(c, l, e, y) / b.of(c, l, e, y);
            } else if (on("%")) {
                Num b = value();
                left = (c, l, e, y) -> b.of(c, l, e, y) == 0 ? 0 : a.of(c, l, e, y) % b.of(c, l, e, y);
            } else {
                return left;
            }
        }
    }

    private Num value() {
        Token t = peek();
        if (!t.text.matches("[0-9]+") && !WORDS.contains(t.text)) throw new Fault(t.place, 0);
        if (t.text.matches("[0-9]{6,}")) throw new Fault(t.place, 1);
        if (++items > 60) throw new Fault(t.place, 3);
        at++;
        if (t.text.matches("[0-9]+")) {
            long n = Long.parseLong(t.text);
            return (c, l, e, y) -> n;
        }
        return switch (t.text) {
            case "lodger" -> (c, l, e, y) -> l;
            case "bed" -> (c, l, e, y) -> e;
            case "shape" -> (c, l, e, y) -> c.lodgers.get(l).shape;
            case "body" -> (c, l, e, y) -> c.lodgers.get(l).body;
            case "wants" -> (c, l, e, y) -> c.lodgers.get(l).wants;
            case "hollow" -> (c, l, e, y) -> c.beds.get(e).hollow;
            case "under" -> (c, l, e, y) -> c.beds.get(e).under;
            case "stuff" -> (c, l, e, y) -> c.beds.get(e).stuff;
            case "room" -> (c, l, e, y) -> c.room - y[e];
            case "last" -> (c, l, e, y) -> c.lodgers.get(l).last == e ? 1 : 0;
            case "near" -> (c, l, e, y) -> Math.abs(c.lodgers.get(l).shape - c.beds.get(e).hollow);
            default -> (c, l, e, y) -> c.night;
        };
    }

    // ------------------------------------------------------------------ NIGHTS

    private static int choice(City c, List<Clause> rule, int l, int[] lying) {
        int best = -1;
        long most = 0;
        int last = c.lodgers.get(l).last;
        if (rule == null && last >= 0 && lying[last] < c.room) return last;
        for (int b = 0; b < c.beds.size(); b++) {
            if (lying[b] >= c.room) continue;
            if (rule == null) return b;
            long worth = 0;
            for (Clause clause : rule) {
                if (clause.test == null || clause.test.of(c, l, b, lying)) {
                    worth = clause.sum.of(c, l, b, lying);
                    break;
                }
            }
            if (worth > most) {
                most = worth;
                best = b;
            }
        }
        return best;
    }

    private static City night(City c, List<Clause> rule, Held held) {
        int[] lying = new int[5];
        int[] lies = new int[6];
        for (int l = 0; l < c.lodgers.size(); l++) {
            Integer place = held.of(l);
            int b = place == null ? choice(c, rule, l, lying) : place;
            lies[l] = b >= 0 && lying[b] < c.room ? b : -1;
            if (lies[l] >= 0) lying[b]++;
        }
        return behind(c, lies);
    }

    private static City behind(City c, int[] lies) {
        List<Bed> bs = new ArrayList<>();
        List<Lodger> ls = new ArrayList<>();
        boolean may = c.night % c.card == c.card - 1;
        for (int b = 0; b < c.beds.size(); b++) {
            Bed bed = c.beds.get(b);
            List<Integer> shapes = new ArrayList<>();
            for (int l = 0; l < c.lodgers.size(); l++) if (lies[l] == b) shapes.add(c.lodgers.get(l).shape);
            int h = hollow(bed, shapes);
            bs.add(may ? new Bed((h + 50) / 2, (bed.under + 50) / 2, bed.stuff) : new Bed(h, bed.under, bed.stuff));
        }
        for (int l = 0; l < c.lodgers.size(); l++) {
            Lodger o = c.lodgers.get(l);
            boolean on = lies[l] >= 0;
            int s = on ? o.shape + (c.beds.get(lies[l]).hollow - o.shape) / o.body : o.shape;
            ls.add(new Lodger(s, o.body, o.wants, lies[l], o.slept + (on ? 1 : 0)));
        }
        return new City(c.card, c.room, c.night + 1, bs, ls);
    }

    private static int hollow(Bed bed, List<Integer> shapes) {
        if (shapes.isEmpty()) return bed.hollow;
        int mean = shapes.stream().mapToInt(i -> i).sum() / shapes.size();
        return bed.hollow + (mean - bed.hollow) / bed.stuff;
    }

    private City nights(City c, int n) {
        for (int i = 0; i < n; i++) c = night(c, inForce(), l -> null);
        return c;
    }

    // ------------------------------------------------------------------ the face

    private final List<Integer> tape = new ArrayList<>();
    private final List<List<Clause>> rules = new ArrayList<>();
    private final Map<Integer, Image> images = new HashMap<>();
    private City city;
    private City told;
    private int force = -1;
    private int x;
    private List<Note> notes = new ArrayList<>();
    private Deque<City> past = new ArrayDeque<>();

    private List<Clause> inForce() {
        return force < 0 ? null : rules.get(force);
    }

    private boolean noBed(int b) {
        return city == null || b < 0 || b >= city.beds.size();
    }

    private boolean noLodger(int l) {
        return city == null || l < 0 || l >= city.lodgers.size();
    }

    private static boolean out(int v, int low, int high) {
        return v < low || v > high;
    }

    private void act(City next) {
        past.addLast(city);
        if (past.size() > 20) past.removeFirst();
        city = next;
    }

    public int feed(int a, int b, int c, int d, int e) {
        if (tape.size() > 380) return -1;
        for (int v : new int[] {a, b, c, d, e}) {
            for (int i = 3; i >= 0; i--) tape.add(v >> 8 * i & 255);
        }
        return tape.size();
    }

    public int end(int n) {
        if (out(n, 0, tape.size())) return -1;
        while (tape.size() > n) tape.remove(tape.size() - 1);
        return n;
    }

    private String takeTape() {
        byte[] bytes = new byte[tape.size()];
        for (int i = 0; i < bytes.length; i++) bytes[i] = (byte) (int) tape.get(i);
        tape.clear();
        return new String(bytes, StandardCharsets.ISO_8859_1);
    }

    public int city() {
        try {
            told = parseCity(takeTape());
            city = told;
            notes = new ArrayList<>();
            past = new ArrayDeque<>();
            return city.beds.size();
        } catch (Fault f) {
            return -2 - (1 + 8 * f.place + f.kind);
        }
    }

    public int rule() {
        if (rules.size() == 6) return -1;
        try {
            rules.add(parseRule(takeTape()));
            return rules.size() - 1;
        } catch (Fault f) {
            return -2 - (1 + 8 * f.place + f.kind);
        }
    }

    public int force(int rule) {
        if (out(rule, -1, rules.size() - 1)) return -2;
        int was = force;
        force = rule;
        return was;
    }

    public int bed(int bed, int what) {
        if (noBed(bed) || out(what, 0, 3)) return -1;
        Bed b = city.beds.get(bed);
        int bits = 0;
        for (int l = 0; l < city.lodgers.size(); l++) if (city.lodgers.get(l).last == bed) bits += 1 << l;
        return new int[] {b.hollow, b.under, b.stuff, bits}[what];
    }

    public int lodger(int lodger, int what) {
        if (noLodger(lodger) || out(what, 0, 5)) return -2;
        Lodger l = city.lodgers.get(lodger);
        return new int[] {l.shape, l.body, l.wants, l.last, l.slept, l.far()}[what];
    }

    public int night() {
        if (city == null || city.night == 999) return -1;
        act(nights(city, 1));
        return (int) city.lodgers.stream().filter(l -> l.last >= 0).count();
    }

    public int turn(int bed) {
        if (noBed(bed)) return -1;
        act(city.turned(bed));
        return city.beds.get(bed).hollow;
    }

    public int stuff(int bed, int much) {
        if (noBed(bed) || out(much, 1, 9) || city.beds.get(bed).stuff == much) return -1;
        Bed b = city.beds.get(bed);
        act(city.withBed(bed, new Bed(b.hollow, b.under, much)));
        return b.stuff;
    }

    public int burn(int bed) {
        if (noBed(bed)) return -1;
        Bed b = city.beds.get(bed);
        if (b.hollow == 50 && b.under == 50) return -1;
        act(city.withBed(bed, new Bed(50, 50, b.stuff)));
        return b.hollow;
    }

    public int lead(int lodger, int bed) {
        if (noBed(bed) || noLodger(lodger)) return -2;
        Lodger o = city.lodgers.get(lodger);
        if (o.last == bed) return -2;
        List<Lodger> ls = new ArrayList<>(city.lodgers);
        ls.set(lodger, new Lodger(o.shape, o.body, o.wants, bed, o.slept));
        act(new City(city.card, city.room, city.night, city.beds, ls));
        return o.last;
    }

    public int undo() {
        if (past.isEmpty()) return -2;
        city = past.removeLast();
        return past.size();
    }

    public int ahead(int number, int n, int what) {
        if (city == null || out(n, 0, 100) || out(what, 0, 3)) return -2;
        if (what < 2 && noLodger(number) || what == 2 && noBed(number)) return -2;
        City c = nights(city, n);
        return switch (what) {
            case 0 -> c.lodgers.get(number).shape;
            case 1 -> c.lodgers.get(number).last;
            case 2 -> c.beds.get(number).hollow;
            default -> c.far();
        };
    }

    public int comes(int lodger, int shape) {
        if (noLodger(lodger) || out(shape, 0, 99)) return -1;
        for (int i = 0; i < 200; i++) {
            if (nights(city, i).lodgers.get(lodger).shape == shape) return city.night + i;
        }
        return -2;
    }

    public int row(int lodger, int n, int what) {
        if (noLodger(lodger) || out(n, 1, 4) || out(what, 0, 4)) return -3;
        if (what > n) return -2;
        int places = city.beds.size() + 1;
        int rows = (int) Math.pow(places, n);
        int least = Integer.MAX_VALUE;
        int[] best = new int[5];
        for (int r = 0; r < rows; r++) {
            City c = city;
            int[] row = new int[5];
            boolean room = true;
            for (int i = 0; i < n; i++) {
                int place = r / (int) Math.pow(places, n - 1 - i) % places - 1;
                c = night(c, inForce(), l -> l == lodger ? (Integer) place : null);
                room &= c.lodgers.get(lodger).last == place;
                row[i + 1] = place;
            }
            row[0] = c.lodgers.get(lodger).far();
            if (room && row[0] < least) {
                least = row[0];
                best = row;
            }
        }
        return best[what];
    }

    public int tonight(int what) {
        if (city == null || out(what, -1, 5)) return -3;
        int many = city.lodgers.size();
        if (what >= many) return -2;
        int places = city.beds.size() + 1;
        int least = Integer.MAX_VALUE;
        int[] best = null;
        for (int r = 0; r < (int) Math.pow(places, many); r++) {
            int[] lies = new int[6];
            int[] lying = new int[6];
            boolean room = true;
            int rest = r;
            for (int l = many - 1; l >= 0; l--) {
                lies[l] = rest % places - 1;
                rest /= places;
                room &= ++lying[lies[l] + 1] <= city.room || lies[l] == -1;
            }
            int far = room ? behind(city, lies).far() : Integer.MAX_VALUE;
            if (far < least) {
                least = far;
                best = lies;
            }
        }
        return what < 0 ? least : best[what];
    }

    public int turned(int n, int what) {
        if (city == null || out(n, 1, 60) || out(what, 0, 1)) return -2;
        int which = -1;
        int least = nights(city, n).far();
        for (int b = 0; b < city.beds.size(); b++) {
            int far = nights(city.turned(b), n).far();
            if (far < least) {
                least = far;
                which = b;
            }
        }
        return what == 0 ? which : least;
    }

    public int lain(int bed, int hollow, int what) {
        if (noBed(bed) || out(hollow, 0, 99) || out(what, 0, 2)) return -3;
        List<Integer> sets = new ArrayList<>();
        int all = 63;
        for (int set = 0; set < 1 << city.lodgers.size(); set++) {
            List<Integer> shapes = new ArrayList<>();
            for (int l = 0; l < 6; l++) if ((set >> l & 1) > 0) shapes.add(city.lodgers.get(l).shape);
            if (shapes.size() <= city.room && hollow(city.beds.get(bed), shapes) == hollow) {
                sets.add(set);
                all &= set;
            }
        }
        if (sets.isEmpty()) return what == 1 ? -2 : 0;
        return new int[] {sets.size(), sets.get(0), all}[what];
    }

    public int twins(int n, int what) {
        if (city == null || out(n, 0, 100) || out(what, 0, 2)) return -1;
        List<Lodger> ls = nights(city, n).lodgers;
        List<int[]> twos = new ArrayList<>();
        for (int i = 0; i < ls.size(); i++) {
            for (int j = i + 1; j < ls.size(); j++) {
                if (ls.get(i).shape == ls.get(j).shape) twos.add(new int[] {i, j});
            }
        }
        return what == 0 ? twos.size() : twos.isEmpty() ? -2 : twos.get(0)[what - 1];
    }

    public int settled(int what) {
        if (city == null || out(what, 0, 1)) return -1;
        List<String> begins = new ArrayList<>();
        for (int i = 0; i <= 60; i++) {
            City c = nights(city, i);
            begins.add(c.lodgers.stream().map(Lodger::shape).toList() + "/" + c.beds.stream().map(Bed::hollow).toList());
        }
        for (int i = 0; i < 60; i++) {
            int later = begins.subList(i + 1, 61).indexOf(begins.get(i));
            if (later >= 0) return what == 0 ? city.night + i : later + 1;
        }
        return -2;
    }

    public int best(int n, int what) {
        if (city == null || out(n, 1, 60) || out(what, 0, 1)) return -1;
        int which = 0;
        int least = Integer.MAX_VALUE;
        for (int card = 60; card >= 1; card--) {
            int far = nights(city.withCard(card), n).far();
            if (far <= least) {
                least = far;
                which = card;
            }
        }
        return what == 0 ? which : least;
    }

    public int rests(int one, int other, int n, int what) {
        if (noLodger(one) || noLodger(other) || one == other || out(n, 1, 20) || out(what, 0, 2)) return -1;
        int many = city.beds.size();
        int[][][] far = new int[many][many][];
        for (int a = 0; a < many; a++) {
            for (int b = 0; b < many; b++) {
                City c = city;
                int first = a;
                int second = b;
                for (int i = 0; i < n; i++) {
                    c = night(c, inForce(), l -> l == one ? (Integer) first : l == other ? (Integer) second : null);
                }
                far[a][b] = new int[] {c.lodgers.get(one).far(), c.lodgers.get(other).far()};
            }
        }
        List<int[]> found = new ArrayList<>();
        for (int a = 0; a < many; a++) {
            for (int b = 0; b < many; b++) {
                boolean rest = true;
                for (int i = 0; i < many; i++) {
                    rest &= far[i][b][0] >= far[a][b][0] && far[a][i][1] >= far[a][b][1];
                }
                if (rest) found.add(new int[] {a, b});
            }
        }
        return what == 0 ? found.size() : found.isEmpty() ? -2 : found.get(0)[what - 1];
    }

    public int rent(int much, int lodger) {
        if (noLodger(lodger) || out(much, 0, 9999)) return -1;
        int all = city.lodgers.stream().mapToInt(Lodger::slept).sum();
        if (all == 0) return 0;
        int many = city.lodgers.size();
        int[] part = new int[many];
        int left = much;
        List<Integer> order = new ArrayList<>();
        for (int l = 0; l < many; l++) {
            part[l] = much * city.lodgers.get(l).slept / all;
            left -= part[l];
            order.add(l);
        }
        order.sort((a, b) -> Integer.compare(much * city.lodgers.get(b).slept % all, much * city.lodgers.get(a).slept % all));
        for (int i = 0; i < left; i++) part[order.get(i)]++;
        return part[lodger];
    }

    public int note(int n, int lodger, int bed) {
        if (n == -1) {
            notes = new ArrayList<>();
            return 0;
        }
        if (out(n, 0, 60) || noLodger(lodger) || bed != -1 && noBed(bed) || notes.size() == 10) return -2;
        notes.add(new Note(n, lodger, bed));
        return notes.size();
    }

    /** Where all lay on each of the NIGHTS 0 to 60 by a RULE, from the begin on. */
    private List<List<Integer>> story(List<Clause> rule) {
        List<List<Integer>> nights = new ArrayList<>();
        City c = told;
        for (int i = 0; i <= 60; i++) {
            c = night(c, rule, l -> null);
            nights.add(c.lodgers.stream().map(Lodger::last).toList());
        }
        return nights;
    }

    private Map<Integer, List<List<Integer>>> agreeing() {
        Map<Integer, List<List<Integer>>> found = new java.util.TreeMap<>();
        for (int r = -1; r < rules.size(); r++) {
            List<List<Integer>> nights = story(r < 0 ? null : rules.get(r));
            if (notes.stream().allMatch(o -> nights.get(o.n).get(o.lodger) == o.bed)) found.put(r, nights);
        }
        return found;
    }

    public int ruled(int what) {
        if (city == null || out(what, 0, 1)) return -3;
        Map<Integer, List<List<Integer>>> found = agreeing();
        return what == 0 ? found.size() : found.isEmpty() ? -2 : found.keySet().iterator().next();
    }

    public int look(int n, int what) {
        if (city == null || out(n, 0, 60) || out(what, 0, 1)) return -1;
        Map<Integer, List<List<Integer>>> found = agreeing();
        if (found.isEmpty() || city.lodgers.isEmpty()) return -2;
        int who = -1;
        int fewest = Integer.MAX_VALUE;
        for (int l = 0; l < city.lodgers.size(); l++) {
            int[] alike = new int[6];
            int most = 0;
            for (List<List<Integer>> nights : found.values()) {
                most = Math.max(most, ++alike[nights.get(n).get(l) + 1]);
            }
            if (most < fewest) {
                fewest = most;
                who = l;
            }
        }
        return what == 0 ? who : fewest;
    }

    public int seed(int number) {
        if (number < 0) return -1;
        int was = x;
        x = number;
        return was;
    }

    public int mays(int m, int n, int p, int what) {
        if (city == null || out(m, 1, 10) || out(n, 1, 60) || out(p, 0, 100) || out(what, 0, 1)) return -1;
        java.math.BigInteger[] seed = {java.math.BigInteger.valueOf(x)};
        int sum = 0;
        for (int i = 0; i < m; i++) {
            City c = city;
            for (int j = 0; j < n; j++) {
                if (draw(seed) % 100 < p && !c.beds.isEmpty()) c = c.turned(draw(seed) % c.beds.size());
                c = nights(c, 1);
            }
            sum += what == 0 ? c.far() : c.hollows();
        }
        return sum;
    }

    private static int draw(java.math.BigInteger[] seed) {
        seed[0] = seed[0].multiply(java.math.BigInteger.valueOf(1103515245)).add(java.math.BigInteger.valueOf(12345))
            .mod(java.math.BigInteger.valueOf(2147483648L));
        return seed[0].intValueExact() / 65536;
    }

    public int count(int what) {
        boolean no = city == null;
        return switch (what) {
            case 0 -> no ? 0 : city.card;
            case 1 -> no ? 0 : city.room;
            case 2 -> no ? 0 : city.beds.size();
            case 3 -> no ? 0 : city.lodgers.size();
            case 4 -> rules.size();
            case 5 -> force;
            case 6 -> no ? 0 : city.night;
            case 7 -> no ? 0 : city.far();
            case 8 -> no ? 0 : city.hollows();
            case 9 -> no ? 0 : city.lodgers.stream().mapToInt(Lodger::slept).sum();
            case 10 -> notes.size();
            case 11 -> past.size();
            case 12 -> x;
            case 13 -> tape.size();
            default -> -1;
        };
    }

    public int image(int k) {
        if (out(k, 0, 3)) return -1;
        images.put(k, new Image(city, told, force, x, new ArrayList<>(notes), new ArrayDeque<>(past)));
        return count(6);
    }

    public int back(int k) {
        Image i = images.get(k);
        if (i == null) return -1;
        city = i.city;
        told = i.told;
        force = i.force;
        x = i.x;
        notes = new ArrayList<>(i.notes);
        past = new ArrayDeque<>(i.past);
        return count(6);
    }
}
