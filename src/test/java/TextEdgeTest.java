/** The document's "Terms", sentence by sentence: the edges of texts, and which FAULT stands there. */
public final class TextEdgeTest {
    private static final Calls calls = new Calls();
    /** How much has a place in FAULTS of kind 0 to 4. */
    private static final int CANNOT_STAND = 0;
    private static final int NUMBER = 1;
    private static final int DEEP = 2;
    private static final int ITEM = 3;
    private static final int CLAUSE = 4;

    public static void main(String[] args) {
        bytesOfTexts();
        behindFaults();
        clausesOfCities();
        numbersOfCities();
        bedsAndLodgersTold();
        begin();
        clausesOfRules();
        numbers();
        words();
        parted();
        goesRound();
        blanks();
        deep();
        items();
        order();
        leastOfOnePlace();
        calls.close("TextEdgeTest");
    }

    private static void city(String why, String text, int want) {
        calls.due(why + ": city \"" + text + "\"", Calls.city(new HollowBed(), text), want);
    }

    private static void rule(String why, String text, int want) {
        calls.due(why + ": rule \"" + text + "\"", Calls.rule(new HollowBed(), text), want);
    }

    private static int fault(int place, int kind) {
        return -2 - (1 + 8 * place + kind);
    }

    /** A text made as long as told by blanks at its end. */
    private static String asLongAs(int many, String text) {
        return text + " ".repeat(many - text.length());
    }

    private static void bytesOfTexts() {
        String why = "a text of at most 400 bytes";
        city(why, asLongAs(400, "city 1 1;bed 1 2 3"), 1);
        city(why, " ".repeat(392) + "city 1 1", 0);
        rule(why, asLongAs(400, "lie 1"), 0);
        rule(why, " ".repeat(395) + "lie 1", 0);
        why = "the end (behind the last byte)";
        city(why, "", fault(0, CANNOT_STAND));
        rule(why, "", fault(0, CANNOT_STAND));
        city(why, "city 1 1;bed 1 2", fault(16, CANNOT_STAND));
        city(why, asLongAs(400, "city 1 1;"), fault(400, CANNOT_STAND));
        rule(why, asLongAs(400, "lie 1+"), fault(400, CANNOT_STAND));
        rule(why, " ".repeat(400), fault(400, CANNOT_STAND));
        city(why + ", not one byte ahead", asLongAs(399, "city 1 1") + ";", fault(400, CANNOT_STAND));
        city("the last byte", asLongAs(399, "city 1 1") + "x", fault(399, CANNOT_STAND));
        rule("the last byte", asLongAs(399, "lie 1") + "x", fault(399, CANNOT_STAND));
        cut("lie 1+2+3", 5, 0);
        cut("lie beds", 7, 0);
        cut("lie 1234567", 9, 0);
        cut("lie 1 if 1<=1", 11, fault(11, CANNOT_STAND));
        cut("lie 1 if 1=1", 11, fault(11, CANNOT_STAND));
        cut("lie 1;lie 1", 6, fault(6, CANNOT_STAND));
        cut("lie 1", 3, fault(3, CANNOT_STAND));
        cut("lie 1", 2, fault(0, CANNOT_STAND));
        cut("  lie 1", 0, fault(0, CANNOT_STAND));
    }

    /** What the TAPE held behind its end is no part of the text. */
    private static void cut(String text, int bytes, int want) {
        HollowBed x = new HollowBed();
        Calls.tape(x, text);
        x.end(bytes);
        calls.due("\"" + text + "\" cut to " + bytes, x.rule(), want);
    }

    /** A text with a FAULT leaves nothing behind that a later RULE could have. */
    private static void behindFaults() {
        String town = "city 9 1;bed 1 1 1;bed 2 2 2;lodger 50 1 0";
        HollowBed x = Calls.bedsOf(town);
        Calls.rule(x, "lie 9 if bed=0;lie 9;lie 9;lie");
        calls.due("a RULE behind a FAULT", Calls.rule(x, "lie 1+bed"), 0);
        x.force(0);
        x.night();
        calls.due("no CLAUSE ahead of its own", x.lodger(0, 3), 1);
        HollowBed y = Calls.bedsOf(town);
        Calls.rule(y, "lie 9 if 1=1;lie 9 if 1=1;lie 9 if 1=1;lie");
        Calls.rule(y, "lie 5 if bed=7");
        y.force(0);
        calls.due("no CLAUSE behind its own", y.night(), 0);
        HollowBed not = Calls.bedsOf(town);
        Calls.rule(not, "lie 1 if not 1=1;");
        Calls.rule(not, "lie 1 if 1=1");
        not.force(0);
        calls.due("no not behind its own FACTS", not.night(), 1);
        HollowBed z = Calls.bedsOf(town);
        for (int i = 0; i < 30; i++) Calls.rule(z, "lie 1" + "+1".repeat(59) + ";");
        Calls.rule(z, "lie 1" + "+1".repeat(50) + "-51+bed");
        z.force(0);
        z.night();
        calls.due("a long RULE behind many FAULTS", z.lodger(0, 3), 1);
    }

    private static void clausesOfCities() {
        String beds = ";bed 0 0 1".repeat(5);
        String lodgers = ";lodger 0 1 0".repeat(6);
        city("one CLAUSE alone", "city 1 1", 0);
        city("no CLAUSE", ";", fault(0, CANNOT_STAND));
        city("no CLAUSE behind ;", "city 1 1;", fault(9, CANNOT_STAND));
        city("once", "city 1 1;city 1 1", fault(9, CLAUSE));
        city("once, even if wrong", "city 1 1;city 99 99", fault(9, CLAUSE));
        city("once, even behind others", "city 1 1;bed 0 0 1;city 1 1", fault(19, CLAUSE));
        city("the first CLAUSE", "bed 0 0 1;city 1 1", fault(0, CLAUSE));
        city("the first CLAUSE", "lodger 0 1 0;city 1 1", fault(0, CLAUSE));
        city("the first CLAUSE, at its first byte", "   bed 0 0 1", fault(3, CLAUSE));
        city("another ahead of it, even if wrong", "bed x", fault(0, CLAUSE));
        city("BEDS 0 to 4", "city 1 1" + beds, 5);
        city("a sixth BED", "city 1 1" + beds + ";bed 0 0 1", fault(59, CLAUSE));
        city("a sixth BED behind LODGERS", "city 1 1" + beds + lodgers + ";bed 0 0 1", fault(137, CLAUSE));
        city("a sixth BED of many CLAUSES", "city 1 1" + ";bed 0 0 1".repeat(39), fault(59, CLAUSE));
        city("LODGERS 0 to 5", "city 1 1" + lodgers, 0);
        city("a seventh LODGER", "city 1 1" + lodgers + ";lodger 0 1 0", fault(87, CLAUSE));
        city("a seventh LODGER behind BEDS", "city 1 1" + lodgers + beds + ";lodger 0 1 0", fault(137, CLAUSE));
        city("12 CLAUSES in all", "city 1 1" + lodgers + beds, 5);
    }

    private static void numbersOfCities() {
        edges("CARD 1 to 60", "city ", " 1", 1, 60);
        edges("ROOM 1 to 6", "city 1 ", "", 1, 6);
        edges("HOLLOW 0 to 99", "city 1 1;bed ", " 1 1", 0, 99);
        edges("UNDER 0 to 99", "city 1 1;bed 1 ", " 1", 0, 99);
        edges("STUFF 1 to 9", "city 1 1;bed 1 1 ", "", 1, 9);
        edges("SHAPE 0 to 99", "city 1 1;lodger ", " 1 1", 0, 99);
        edges("BODY 1 to 9", "city 1 1;lodger 1 ", " 1", 1, 9);
        edges("WANTS 0 to 99", "city 1 1;lodger 1 1 ", "", 0, 99);
        HollowBed most = Calls.bedsOf("city 60 6;bed 99 98 9;lodger 97 9 96");
        calls.dues("the greatest are told", Calls.of(most.count(0), most.count(1), most.bed(0, 0), most.bed(0, 1),
            most.bed(0, 2), most.lodger(0, 0), most.lodger(0, 1), most.lodger(0, 2)), 60, 6, 99, 98, 9, 97, 9, 96);
        HollowBed least = Calls.bedsOf("city 1 1;bed 0 0 1;lodger 0 1 0");
        calls.dues("the least are told", Calls.of(least.count(0), least.count(1), least.bed(0, 0), least.bed(0, 1),
            least.bed(0, 2), least.lodger(0, 0), least.lodger(0, 1), least.lodger(0, 2)), 1, 1, 0, 0, 1, 0, 1, 0);
    }

    /** The least and the greatest stand, one less and one more are not as told. */
    private static void edges(String why, String ahead, String behind, int low, int high) {
        int stands = ahead.contains("bed") ? 1 : 0;
        city(why, ahead + low + behind, stands);
        city(why, ahead + high + behind, stands);
        city(why + ", in five digits", ahead + String.format("%05d", high) + behind, stands);
        if (low > 0) city(why, ahead + (low - 1) + behind, fault(ahead.length(), NUMBER));
        city(why, ahead + (high + 1) + behind, fault(ahead.length(), NUMBER));
        city(why, ahead + 99999 + behind, fault(ahead.length(), NUMBER));
        city(why + ", not in six digits", ahead + String.format("%06d", high) + behind, fault(ahead.length(), NUMBER));
        city(why + ", not below 0", ahead + "-1" + behind, fault(ahead.length(), CANNOT_STAND));
        city(why + ", not left out", ahead + ";" + behind, fault(ahead.length(), CANNOT_STAND));
        city(why + ", not in 32 bits", ahead + (4294967296L + high) + behind, fault(ahead.length(), NUMBER));
    }

    private static void bedsAndLodgersTold() {
        HollowBed x = Calls.bedsOf("city 2 3;lodger 10 1 20;bed 30 31 2;lodger 11 2 21;bed 40 41 3");
        calls.dues("in the order told, BEDS", Calls.of(x.bed(0, 0), x.bed(0, 1), x.bed(0, 2), x.bed(1, 0), x.bed(2, 0)), 30, 31, 2, 40, -1);
        calls.dues("in the order told, LODGERS", Calls.of(x.lodger(0, 0), x.lodger(0, 2), x.lodger(1, 0), x.lodger(1, 1), x.lodger(2, 0)),
            10, 20, 11, 2, -2);
        HollowBed all = Calls.bedsOf("city 2 3;bed 1 0 1;bed 2 0 1;bed 3 0 1;bed 4 0 1;bed 5 0 1;"
            + "lodger 6 1 0;lodger 7 1 0;lodger 8 1 0;lodger 9 1 0;lodger 10 1 0;lodger 11 1 0");
        calls.dues("BEDS 0 to 4", Calls.of(all.bed(-1, 0), all.bed(0, 0), all.bed(4, 0), all.bed(5, 0)), -1, 1, 5, -1);
        calls.dues("LODGERS 0 to 5", Calls.of(all.lodger(-1, 0), all.lodger(0, 0), all.lodger(5, 0), all.lodger(6, 0)), -2, 6, 11, -2);
    }

    private static void begin() {
        HollowBed x = Calls.bedsOf("city 1 2;bed 1 0 1;lodger 5 1 0;lodger 6 1 0");
        calls.due("it is NIGHT 0", x.count(6), 0);
        calls.dues("nobody has lain on any", Calls.of(x.lodger(0, 3), x.lodger(1, 3), x.lodger(0, 4), x.lodger(1, 4), x.bed(0, 3), x.count(9)),
            -1, -1, 0, 0, 0, 0);
        Calls.nights(x, 3);
        Calls.city(x, "city 1 2;bed 1 0 1;lodger 5 1 0;lodger 6 1 0");
        calls.due("it is NIGHT 0 again", x.count(6), 0);
        calls.dues("nobody has lain on any of the new ones", Calls.of(x.lodger(0, 3), x.lodger(1, 3), x.lodger(0, 4), x.lodger(1, 4),
            x.bed(0, 3), x.count(9)), -1, -1, 0, 0, 0, 0);
    }

    private static void clausesOfRules() {
        String eleven = "lie 0 if 1=2;".repeat(11);
        rule("12 CLAUSES at most", eleven + "lie 1", 0);
        rule("one CLAUSE too many", eleven + "lie 1;lie 2", fault(11 * 13 + 6, CLAUSE));
        rule("one CLAUSE too many (at its first byte)", eleven + "lie 1;  lie", fault(11 * 13 + 8, CLAUSE));
        rule("one CLAUSE at least", "", fault(0, CANNOT_STAND));
        rule("a CLAUSE behind each ;", eleven + "lie 1;", fault(11 * 13 + 6, CANNOT_STAND));
        rule("if wants a TEST", "lie 1 if", fault(8, CANNOT_STAND));
        rule("TEST wants if", "lie 1 1=1", fault(6, CANNOT_STAND));
        rule("a SIGN between SUMS", "lie 1 if 1 1", fault(11, CANNOT_STAND));
        rule("a SIGN between SUMS", "lie 1 if bed room=1", fault(13, CANNOT_STAND));
        rule("a SUM behind a SIGN", "lie 1 if 1=;", fault(11, CANNOT_STAND));
        rule("a SUM ahead of a SIGN", "lie 1 if =1", fault(9, CANNOT_STAND));
        rule("once if", "lie 1 if 1=1 if 1=1", fault(13, CANNOT_STAND));
        calls.due("RULES may come without a CITY", Calls.rule(new HollowBed(), "lie 1"), 0);
    }

    private static void numbers() {
        rule("1 to 5 digits", "lie 0", 0);
        rule("1 to 5 digits", "lie 99999", 0);
        rule("1 to 5 digits", "lie 00000", 0);
        rule("a NUMBER of more digits", "lie 100000", fault(4, NUMBER));
        rule("a NUMBER of more digits", "lie 000001", fault(4, NUMBER));
        rule("a NUMBER of more digits", "lie 1 if 1=000000", fault(11, NUMBER));
        rule("a NUMBER of more digits", "lie " + "9".repeat(396), fault(4, NUMBER));
        rule("as far as digits go on", "lie 12345 6", fault(10, CANNOT_STAND));
        rule("as far as digits go on", "lie 12345bed", fault(9, CANNOT_STAND));
        rule("as far as digits go on", "lie 1if1=1", 0);
        holds("five digits count", "99999>99998 and 99999=99998+1");
        holds("nothing ahead of digits counts", "00010=10");
    }

    private static void words() {
        rule("as far as these go on", "lie lastnight", fault(4, CANNOT_STAND));
        rule("as far as these go on", "lie beda", fault(4, CANNOT_STAND));
        rule("as far as these go on", "lie nigh", fault(4, CANNOT_STAND));
        rule("as far as these go on", "lie bed if bed=1orbed=2", fault(16, CANNOT_STAND));
        rule("as far as these go on", "lie bed ifbed=1", fault(8, CANNOT_STAND));
        rule("as far as these go on", "lie bed if notbed=1", fault(11, CANNOT_STAND));
        rule("as far as these go on", "lie bed if1=bed", 0);
        rule("as far as these go on", "liebed", fault(0, CANNOT_STAND));
        rule("small letters", "lie Bed", fault(4, CANNOT_STAND));
        rule("small letters", "lie bedD", fault(7, CANNOT_STAND));
        rule("small letters", "lie bed" + (char) 228, fault(7, CANNOT_STAND));
        rule("a WORD that can't stand there", "lie city", fault(4, CANNOT_STAND));
        rule("a WORD that can't stand there", "lie card", fault(4, CANNOT_STAND));
        rule("a WORD that can't stand there", "lie and", fault(4, CANNOT_STAND));
        rule("a WORD that can't stand there", "lie 1 and 1=1", fault(6, CANNOT_STAND));
        rule("a WORD that can't stand there", "lie 1 if and", fault(9, CANNOT_STAND));
        rule("a WORD that can't stand there", "lie 1 if 1=not 1", fault(11, CANNOT_STAND));
        city("a WORD that can't stand there", "city bed", fault(5, CANNOT_STAND));
        city("a WORD that can't stand there", "city 1 lodger", fault(7, CANNOT_STAND));
        city("a WORD that can't stand there", "city 1 1;lie 1", fault(9, CANNOT_STAND));
        city("a WORD that can't stand there", "city 1 1 bed 1 1 1", fault(9, CANNOT_STAND));
        city("as far as these go on", "citys 1 1", fault(0, CANNOT_STAND));
        city("as far as these go on", "city 1 1;bedlodger 1 1 1", fault(9, CANNOT_STAND));
        city("small letters", "cITY 1 1", fault(0, CANNOT_STAND));
    }

    /** A TEST holds: the one LODGER lies on the one BED. SHAPE 50, BODY 2, WANTS 3, HOLLOW 40, UNDER 0, STUFF 9. */
    private static void holds(String why, String test) {
        HollowBed x = Calls.bedsOf("city 9 1;bed 40 0 9;lodger 50 2 3");
        calls.due(why + ": the RULE of " + test, Calls.rule(x, "lie 1 if " + test), 0);
        x.force(0);
        calls.due(why + ": " + test, x.night(), 1);
    }

    /** Below 0 within a TERM: 2 ** 63 goes round to the least, and by 2 ** 48 that is -32768. */
    private static void parted() {
        String below = "32768*65536*65536*65536/65536/65536/65536";
        holds("below 0", below + "=0-32768");
        holds("/ is towards 0", below + "/5=0-6553");
        holds("/ is towards 0", below + "/32769=0");
        holds("/ is towards 0", "32768/5=6553");
        holds("% its rest", below + "%5=0-3");
        holds("% its rest", "32768%5=3");
        holds("% its rest", below + "%32768=0");
        holds("% its rest", "7%9=7");
        holds("both 0 by 0", "7/0=0");
        holds("both 0 by 0", "7%0=0");
        holds("both 0 by 0", "0/0=0 and 0%0=0");
        holds("both 0 by 0", below + "/0=0 and " + "32768*65536*65536*65536%0=0");
        holds("0 by a WORD, too", "shape/under=0 and shape%under=0 and shape/lodger=0");
        holds("from left to right", "7/2*2=6 and 2*7/2=7 and 100%7*3=6 and 100-7-3=90");
    }

    private static void goesRound() {
        String most = "32768*65536*65536*65536-1";
        holds("the greatest", most + ">0");
        holds("all goes round in 64 bits", most + "+1<0");
        holds("all goes round in 64 bits", "0-32768*65536*65536*65536-1>0");
        holds("all goes round in 64 bits", "65536*65536*65536*65536=0");
        holds("all goes round in 64 bits", "32768*65536*65536*65536=0-32768*65536*65536*65536");
        holds("not in 32 bits", "65536*65536>65536*32768 and 65536*32768>0");
        holds("not in 53 bits", "32*65536*65536*65536+1>32*65536*65536*65536");
    }

    private static void blanks() {
        rule("as one likes: none", "lie1+2if1=1and2=2or not[3=3]", 0);
        rule("as one likes: many", "   lie   1  +  2   if   1   =  1   and   not   [   3  <=   3   ]   ;   lie   2   ", 0);
        city("as one likes: none", "city1 1;bed1 1 1;lodger1 1 1", 1);
        city("as one likes: many", "   city   1   1   ;   bed   1   1   1   ;   lodger   1   1   1   ", 1);
        rule("between, not within a WORD", "l ie 1", fault(0, CANNOT_STAND));
        rule("between, not within a NUMBER", "lie 1 1", fault(6, CANNOT_STAND));
        rule("between, not within a SIGN", "lie 1 if 1> =1", fault(12, CANNOT_STAND));
        rule("32 alone", "lie" + (char) 9 + "1", fault(3, CANNOT_STAND));
        rule("32 alone", "lie 1" + (char) 10, fault(5, CANNOT_STAND));
        rule("32 alone", "lie 1" + (char) 13, fault(5, CANNOT_STAND));
        rule("32 alone", "lie 1" + (char) 160, fault(5, CANNOT_STAND));
        rule("32 alone", (char) 0 + "lie 1", fault(0, CANNOT_STAND));
        city("32 alone", "city 1 1" + (char) 0, fault(8, CANNOT_STAND));
        city("32 alone", "city" + (char) 160 + "1 1", fault(4, CANNOT_STAND));
    }

    private static void deep() {
        String ten = "[not ".repeat(5);
        rule("10 deep at most", "lie 1 if " + "[".repeat(10) + "1=1" + "]".repeat(10), 0);
        rule("too deep (at the sign that opens)", "lie 1 if " + "[".repeat(11) + "1=1" + "]".repeat(11), fault(19, DEEP));
        rule("10 deep at most", "lie 1 if " + "not ".repeat(10) + "1=1", 0);
        rule("too deep (at the word not)", "lie 1 if " + "not ".repeat(11) + "1=1", fault(49, DEEP));
        rule("one another", "lie 1 if " + ten + "1=1" + "]".repeat(5), 0);
        rule("one another, [", "lie 1 if " + ten + "[1=1]" + "]".repeat(5), fault(34, DEEP));
        rule("one another, not", "lie 1 if " + ten + " not 1=1" + "]".repeat(5), fault(35, DEEP));
        rule("one another: beside is not within", "lie 1 if " + "not ".repeat(10) + "1=1 or " + "not ".repeat(10) + "1=1", 0);
        rule("one another: beside is not within", "lie 1 if " + "[".repeat(9) + "[1=1] and [1=1]" + "]".repeat(9) + " or [1=1]", 0);
        rule("one another: CLAUSES stand beside", "lie 1 if " + "not ".repeat(10) + "1=1;lie 1 if " + "not ".repeat(10) + "1=1", 0);
        rule("too deep, even if wrong behind", "lie 1 if " + "[".repeat(11), fault(19, DEEP));
        holds("10 deep holds", "not ".repeat(10) + "1=1");
        holds("10 deep holds", "[".repeat(10) + "1=1" + "]".repeat(10));
        holds("9 deep does not hold what does not", "not ".repeat(9) + "1=2");
        // What waits to be joined at each depth: an or, an and, then a SUM's TERM and VALUE.
        holds("10 deep, all of it waiting", "1=2or 1=1and[".repeat(9) + "[7=1+2*3]" + "]".repeat(9));
    }

    private static void items() {
        String fiftyNine = "lie 1" + "+1".repeat(58);
        rule("at most 60 VALUES", fiftyNine + "+1", 0);
        rule("one VALUE too many (at its first byte)", fiftyNine + "+1+ 1", fault(4 + 121, ITEM));
        rule("one VALUE too many, a WORD", fiftyNine + "+1*night", fault(4 + 120, ITEM));
        rule("one FACT too many (at its SIGN)", fiftyNine + " if 1 <= 1", fault(4 + 117 + 6, ITEM));
        rule("together", "lie 1" + "+1".repeat(56) + " if 1=1", 0);
        rule("together", "lie 1" + "+1".repeat(57) + " if 1=1", fault(4 + 115 + 6, ITEM));
        rule("together, of all CLAUSES", fiftyNine + "+1;lie 1", fault(4 + 119 + 5, ITEM));
        rule("together, of all CLAUSES", "lie 1+1+1+1+1" + ";lie 1+1+1+1+1".repeat(11), 0);
        rule("together, of all CLAUSES", "lie 1+1+1+1+1" + ";lie 1+1+1+1+1".repeat(10) + ";lie 1+1+1+1+1+1", fault(13 + 140 + 15, ITEM));
        rule("FACTS made of a SIGN alone", "lie 1" + "+1".repeat(56) + " if not [not [1=1]]", 0);
        HollowBed x = new HollowBed();
        Calls.rule(x, fiftyNine + "+1");
        calls.due("of one text alone", Calls.rule(x, fiftyNine + "+1"), 1);
    }

    private static void order() {
        rule("the first along the text", "lie 100000+;", fault(4, NUMBER));
        rule("the first along the text", "lie +100000", fault(4, CANNOT_STAND));
        city("the first along the text", "city 0 0;bed", fault(5, NUMBER));
        city("the first along the text", "city 1 1;bed 0 0 0;city", fault(17, NUMBER));
        city("1 + 8 * its place", "x", -3);
        city("1 + 8 * its place", " x", -11);
        city("1 + 8 * its place and 1", "city 0 1", -2 - 1 - 40 - 1);
        rule("1 + 8 * its place and 2", "lie 1 if " + "[".repeat(11), -2 - 1 - 152 - 2);
        rule("1 + 8 * its place and 3", "lie 1" + "+1".repeat(60), -2 - 1 - 8 * 124 - 3);
        city("1 + 8 * its place and 4", "bed", -2 - 1 - 4);
    }

    private static void leastOfOnePlace() {
        String why = "of one place the least";
        String sixty = "lie 1" + "+1".repeat(59);
        rule(why + ": NUMBER ahead of VALUE", sixty + "+100000", fault(124, NUMBER));
        rule(why + ": WORD ahead of VALUE", sixty + "+beds", fault(124, CANNOT_STAND));
        rule(why + ": end ahead of VALUE", sixty + "+", fault(124, CANNOT_STAND));
        rule(why + ": WORD ahead of FACT", "lie 1" + "+1".repeat(58) + " if 1 or", fault(4 + 117 + 6, CANNOT_STAND));
        rule(why + ": WORD ahead of CLAUSE", "lie 1;".repeat(12) + "lies", fault(72, CANNOT_STAND));
        rule(why + ": end ahead of CLAUSE", "lie 1;".repeat(12), fault(72, CANNOT_STAND));
        city(why + ": WORD ahead of BED", "city 1 1" + ";bed 0 0 1".repeat(5) + ";bedx", fault(59, CANNOT_STAND));
        city(why + ": WORD ahead of LODGER", "city 1 1" + ";lodger 0 1 0".repeat(6) + ";lodgers", fault(87, CANNOT_STAND));
        city(why + ": WORD ahead of city", "cities 1 1", fault(0, CANNOT_STAND));
        rule(why + ": WORD ahead of depth", "lie 1 if " + "[".repeat(10) + "nots", fault(19, CANNOT_STAND));
    }
}
