import java.nio.charset.StandardCharsets;
import java.util.ArrayList;
import java.util.List;

/** What the tests share: texts put on the TAPE, and answers compared with those that are due. */
final class Calls {
    private int passed;
    private int failed;

    /** Puts a text on an empty TAPE; what end answered. */
    static int tape(HollowBed x, String text) {
        byte[] bytes = text.getBytes(StandardCharsets.ISO_8859_1);
        x.end(0);
        for (int at = 0; at < bytes.length; at += 20) {
            x.feed(number(bytes, at), number(bytes, at + 4), number(bytes, at + 8),
                number(bytes, at + 12), number(bytes, at + 16));
        }
        return x.end(bytes.length);
    }

    static int number(byte[] bytes, int at) {
        int number = 0;
        for (int i = 0; i < 4; i++) {
            number = number << 8 | (at + i < bytes.length ? bytes[at + i] & 255 : 0);
        }
        return number;
    }

    static int city(HollowBed x, String text) {
        tape(x, text);
        return x.city();
    }

    static int rule(HollowBed x, String text) {
        tape(x, text);
        return x.rule();
    }

    static HollowBed bedsOf(String city) {
        HollowBed x = new HollowBed();
        city(x, city);
        return x;
    }

    /** A CITY in which a RULE is IN FORCE. */
    static HollowBed bedsOf(String city, String rule) {
        HollowBed x = bedsOf(city);
        rule(x, rule);
        x.force(0);
        return x;
    }

    static void nights(HollowBed x, int n) {
        for (int i = 0; i < n; i++) {
            x.night();
        }
    }

    static int[] of(int... answers) {
        return answers;
    }

    /** All that can be seen of an object without changing it. */
    static int[] view(HollowBed x) {
        List<Integer> seen = new ArrayList<>();
        for (int what = 0; what <= 13; what++) {
            seen.add(x.count(what));
        }
        for (int bed = 0; bed < x.count(2); bed++) {
            for (int what = 0; what <= 3; what++) {
                seen.add(x.bed(bed, what));
            }
        }
        for (int lodger = 0; lodger < x.count(3); lodger++) {
            for (int what = 0; what <= 5; what++) {
                seen.add(x.lodger(lodger, what));
            }
        }
        for (int what = 0; what <= 1; what++) {
            seen.add(x.ruled(what));
            seen.add(x.look(1, what));
            seen.add(x.mays(2, 3, 60, what));
        }
        return seen.stream().mapToInt(i -> i).toArray();
    }

    void due(String what, long got, long want) {
        if (got == want) {
            passed++;
        } else {
            failed++;
            System.out.println(what + " answered " + got + ", due is " + want);
        }
    }

    /** Many answers in a row. */
    void dues(String what, int[] got, int... want) {
        due(what + ", how many", got.length, want.length);
        for (int i = 0; i < Math.min(got.length, want.length); i++) {
            due(what + ", number " + i, got[i], want[i]);
        }
    }

    void close(String name) {
        System.out.println(name + ": " + passed + " passed, " + failed + " failed");
        if (failed != 0) {
            System.exit(1);
        }
    }
}
