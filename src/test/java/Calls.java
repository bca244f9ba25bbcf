import java.nio.charset.StandardCharsets;

/** What the tests share: texts put on the TAPE, and answers compared with those that are due. */
final class Calls {
    private int passed;
    private int failed;

    /** Puts a text on an empty TAPE; what end answered. */
    static int tape(HollowBed x, String text) {
        byte[] bytes = text.getBytes(StandardCharsets.ISO_8859_1);
        x.end(0);
        for (int at = 0; at < bytes.length; at += 20) {
            x.feed(number(bytes, at), number(bytes, at + 4), number(bytes, at + 8),
                number(bytes, at + 12), number(bytes, at + 16));
        }
        return x.end(bytes.length);
    }

    static int number(byte[] bytes, int at) {
        int number = 0;
        for (int i = 0; i < 4; i++) {
            number = number << 8 | (at + i < bytes.length ? bytes[at + i] & 255 : 0);
        }
        return number;
    }

    static int city(HollowBed x, String text) {
        tape(x, text);
        return x.city();
    }

    static int rule(HollowBed x, String text) {
        tape(x, text);
        return x.rule();
    }

    static HollowBed bedsOf(String city) {
        HollowBed x = new HollowBed();
        city(x, city);
        return x;
    }

    /** A CITY in which a RULE is IN FORCE. */
    static HollowBed bedsOf(String city, String rule) {
        HollowBed x = bedsOf(city);
        rule(x, rule);
        x.force(0);
        return x;
    }

    void due(String what, long got, long want) {
        if (got == want) {
            passed++;
        } else {
            failed++;
            System.out.println(what + " answered " + got + ", due is " + want);
        }
    }

    void close(String name) {
        System.out.println(name + ": " + passed + " passed, " + failed + " failed");
        if (failed != 0) {
            System.exit(1);
        }
    }
}
