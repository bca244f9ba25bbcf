import java.util.ArrayList;
import java.util.List;
import java.util.function.Supplier;
import java.util.function.ToIntFunction;

/**
 * "NONE, and nothing happens", call by call: a refused call answers as told, and the object goes on
 * as one that never had it. "By what is asked nothing changes": likewise behind every question.
 */
public final class RefusalTest {
    private static final int MOST = Integer.MAX_VALUE;
    private static final int LEAST = Integer.MIN_VALUE;
    private static final int[] BEYOND_BEDS = {2, 3, 5, MOST, LEAST, -2};
    private static final int[] BEYOND_LODGERS = {2, 3, 6, MOST, LEAST, -2};
    private static final Calls calls = new Calls();

    public static void main(String[] args) {
        refusedActs();
        refusedTexts();
        refusedOthers();
        refusedQuestions();
        refusedWithout("without a CITY", RefusalTest::bare);
        refusedWithout("without BEDS and LODGERS", RefusalTest::empty);
        questionsWithoutCity();
        fullOfAll();
        questionsChangeNothing();
        nothingOfTheCityAhead();
        calls.close("RefusalTest");
    }

    /** With ACTS, NOTES, IMAGES, RULES and bytes on the TAPE. */
    private static HollowBed busy() {
        HollowBed x = Calls.bedsOf("city 3 1;bed 20 80 2;bed 50 50 4;lodger 40 4 90;lodger 30 2 30", "lie 90-near if last=0;lie 1");
        Calls.rule(x, "lie 1+bed");
        x.seed(4711);
        x.note(1, 0, 0);
        x.night();
        x.image(1);
        x.turn(0);
        x.image(2);
        x.burn(1);
        x.note(2, 1, -1);
        x.lead(0, 1);
        Calls.tape(x, "lie 1 if 1=");
        return x;
    }

    private static HollowBed bare() {
        HollowBed x = new HollowBed();
        Calls.rule(x, "lie 1");
        x.force(0);
        x.seed(4711);
        Calls.tape(x, "lie 1 if 1=");
        return x;
    }

    private static HollowBed empty() {
        HollowBed x = Calls.bedsOf("city 3 1");
        x.seed(4711);
        x.night();
        x.image(1);
        x.night();
        Calls.tape(x, "lie 1 if 1=");
        return x;
    }

    /** Ten NOTES, six RULES, a full TAPE. */
    private static HollowBed full() {
        HollowBed x = Calls.bedsOf("city 3 1;bed 20 80 2;lodger 40 4 90");
        for (int i = 0; i < 6; i++) Calls.rule(x, "lie 1");
        for (int i = 0; i < 10; i++) x.note(i, 0, 0);
        for (int i = 0; i < 20; i++) x.feed(0x6c696520, 0x31202020, 0x20202020, 0x20202020, 0x20202020);
        return x;
    }

    /** All that ever comes of an object: as it is, all its ACTS undone, all its IMAGES, its TAPE read. */
    private static List<Integer> trail(HollowBed x) {
        List<Integer> seen = new ArrayList<>();
        addView(seen, x);
        for (int left = x.undo(); left >= 0; left = x.undo()) {
            seen.add(left);
            addView(seen, x);
        }
        for (int k = 0; k < 4; k++) {
            seen.add(x.back(k));
            addView(seen, x);
        }
        seen.add(x.rule());
        seen.add(x.city());
        return seen;
    }

    private static void addView(List<Integer> seen, HollowBed x) {
        for (int answer : Calls.view(x)) seen.add(answer);
    }

    private static void same(String what, Supplier<HollowBed> state, ToIntFunction<HollowBed> call, int want) {
        HollowBed asked = state.get();
        calls.due(what, call.applyAsInt(asked), want);
        calls.due(what + " changes nothing", trail(asked).equals(trail(state.get())) ? 1 : 0, 1);
    }

    private static void refused(String what, ToIntFunction<HollowBed> call, int want) {
        same(what, RefusalTest::busy, call, want);
    }

    private static void refusedActs() {
        for (int bed : BEYOND_BEDS) {
            refused("10: turn(" + bed + ")", x -> x.turn(bed), -1);
            refused("11: stuff(" + bed + ", 5)", x -> x.stuff(bed, 5), -1);
            refused("12: burn(" + bed + ")", x -> x.burn(bed), -1);
            refused("13: lead(0, " + bed + ")", x -> x.lead(0, bed), -2);
        }
        refused("10: turn(-1)", x -> x.turn(-1), -1);
        refused("11: stuff(-1, 5)", x -> x.stuff(-1, 5), -1);
        refused("12: burn(-1)", x -> x.burn(-1), -1);
        refused("13: lead(0, -1)", x -> x.lead(0, -1), -2);
        refused("13: lead(-1, 0)", x -> x.lead(-1, 0), -2);
        for (int lodger : BEYOND_LODGERS) refused("13: lead(" + lodger + ", 0)", x -> x.lead(lodger, 0), -2);
        for (int much : new int[] {0, 10, -1, MOST, LEAST}) refused("11: stuff(0, " + much + ")", x -> x.stuff(0, much), -1);
        refused("11: the same STUFF", x -> x.stuff(0, 2), -1);
        refused("12: both are 50 already", x -> x.burn(1), -1);
        refused("13: no other BED than they did", x -> x.lead(0, 1), -2);
    }

    private static void refusedTexts() {
        for (int n : new int[] {-1, 12, 400, 401, MOST, LEAST}) refused("3: end(" + n + ")", x -> x.end(n), -1);
        refused("3: as many as there are", x -> x.end(11), 11);
        for (int rule : new int[] {2, 5, 6, -2, MOST, LEAST}) refused("6: force(" + rule + ")", x -> x.force(rule), -2);
        refused("6: the one that is", x -> x.force(0), 0);
        // The TAPE is empty behind a FAULT; put back as it was, all is as if nothing had been.
        refused("4: FAULT, and all stays", x -> {
            int fault = Calls.city(x, "city 9 1;bed 5 5 5;bed 6 6 0");
            Calls.tape(x, "lie 1 if 1=");
            return fault;
        }, -2 - (1 + 8 * 27 + 1));
        refused("5: FAULT, no RULE comes", x -> {
            int fault = Calls.rule(x, "lie 1;lie 2 if 3=");
            Calls.tape(x, "lie 1 if 1=");
            return fault;
        }, -2 - (1 + 8 * 17));
    }

    private static void refusedOthers() {
        for (int n : new int[] {-2, 61, MOST, LEAST}) refused("26: note(" + n + ", 0, 0)", x -> x.note(n, 0, 0), -2);
        for (int lodger : BEYOND_LODGERS) refused("26: note(0, " + lodger + ", 0)", x -> x.note(0, lodger, 0), -2);
        refused("26: note(0, -1, 0)", x -> x.note(0, -1, 0), -2);
        for (int bed : BEYOND_BEDS) refused("26: note(0, 0, " + bed + ")", x -> x.note(0, 0, bed), -2);
        for (int x0 : new int[] {-1, -2, LEAST}) refused("29: seed(" + x0 + ")", x -> x.seed(x0), -1);
        refused("29: the same x", x -> x.seed(4711), 4711);
        for (int k : new int[] {-1, 4, MOST, LEAST}) {
            refused("32: image(" + k + ")", x -> x.image(k), -1);
            refused("33: back(" + k + ")", x -> x.back(k), -1);
        }
        refused("33: back(0), never made", x -> x.back(0), -1);
        refused("33: back(3), never made", x -> x.back(3), -1);
    }

    private static void refusedQuestions() {
        for (int bed : BEYOND_BEDS) {
            refused("7: bed(" + bed + ", 0)", x -> x.bed(bed, 0), -1);
            refused("15: ahead(" + bed + ", 1, 2)", x -> x.ahead(bed, 1, 2), -2);
            refused("20: lain(" + bed + ", 5, 0)", x -> x.lain(bed, 5, 0), -3);
        }
        for (int lodger : BEYOND_LODGERS) {
            refused("8: lodger(" + lodger + ", 0)", x -> x.lodger(lodger, 0), -2);
            refused("15: ahead(" + lodger + ", 1, 0)", x -> x.ahead(lodger, 1, 0), -2);
            refused("15: ahead(" + lodger + ", 1, 1)", x -> x.ahead(lodger, 1, 1), -2);
            refused("16: comes(" + lodger + ", 5)", x -> x.comes(lodger, 5), -1);
            refused("17: row(" + lodger + ", 1, 0)", x -> x.row(lodger, 1, 0), -3);
            refused("24: rests(" + lodger + ", 0, 1, 0)", x -> x.rests(lodger, 0, 1, 0), -1);
            refused("24: rests(0, " + lodger + ", 1, 0)", x -> x.rests(0, lodger, 1, 0), -1);
            refused("25: rent(5, " + lodger + ")", x -> x.rent(5, lodger), -1);
        }
        for (int wrong : new int[] {-2, 14, 61, 101, 10000, MOST, LEAST}) {
            refused("7: bed(0, " + wrong + ")", x -> x.bed(0, wrong), -1);
            refused("8: lodger(0, " + wrong + ")", x -> x.lodger(0, wrong), -2);
            refused("15: ahead(0, 1, " + wrong + ")", x -> x.ahead(0, 1, wrong), -2);
            refused("17: row(0, " + wrong + ", 0)", x -> x.row(0, wrong, 0), -3);
            refused("17: row(0, 1, " + wrong + ")", x -> x.row(0, 1, wrong), -3);
            refused("18: tonight(" + wrong + ")", x -> x.tonight(wrong), -3);
            refused("19: turned(1, " + wrong + ")", x -> x.turned(1, wrong), -2);
            refused("20: lain(0, 5, " + wrong + ")", x -> x.lain(0, 5, wrong), -3);
            refused("21: twins(1, " + wrong + ")", x -> x.twins(1, wrong), -1);
            refused("22: settled(" + wrong + ")", x -> x.settled(wrong), -1);
            refused("23: best(1, " + wrong + ")", x -> x.best(1, wrong), -1);
            refused("24: rests(0, 1, 1, " + wrong + ")", x -> x.rests(0, 1, 1, wrong), -1);
            refused("27: ruled(" + wrong + ")", x -> x.ruled(wrong), -3);
            refused("28: look(1, " + wrong + ")", x -> x.look(1, wrong), -1);
            refused("30: mays(" + wrong + ", 1, 1, 0)", x -> x.mays(wrong, 1, 1, 0), -1);
            refused("30: mays(1, 1, 1, " + wrong + ")", x -> x.mays(1, 1, 1, wrong), -1);
            refused("31: count(" + wrong + ")", x -> x.count(wrong), -1);
        }
        for (int wrong : new int[] {-1, 101, MOST, LEAST}) {
            refused("15: ahead(0, " + wrong + ", 3)", x -> x.ahead(0, wrong, 3), -2);
            refused("16: comes(0, " + wrong + ")", x -> x.comes(0, wrong), -1);
            refused("19: turned(" + wrong + ", 0)", x -> x.turned(wrong, 0), -2);
            refused("20: lain(0, " + wrong + ", 0)", x -> x.lain(0, wrong, 0), -3);
            refused("21: twins(" + wrong + ", 0)", x -> x.twins(wrong, 0), -1);
            refused("23: best(" + wrong + ", 0)", x -> x.best(wrong, 0), -1);
            refused("28: look(" + wrong + ", 0)", x -> x.look(wrong, 0), -1);
            refused("30: mays(1, " + wrong + ", 1, 0)", x -> x.mays(1, wrong, 1, 0), -1);
            refused("30: mays(1, 1, " + wrong + ", 0)", x -> x.mays(1, 1, wrong, 0), -1);
        }
        for (int n : new int[] {0, -1, 21, MOST, LEAST}) refused("24: rests(0, 1, " + n + ", 0)", x -> x.rests(0, 1, n, 0), -1);
        refused("24: unlike", x -> x.rests(1, 1, 1, 0), -1);
    }

    /** What wants a BED or a LODGER is refused where there are none. */
    private static void refusedWithout(String why, Supplier<HollowBed> state) {
        for (int number : new int[] {0, 1, 4, -1}) {
            String told = why + ", number " + number;
            same("7: bed, " + told, state, x -> x.bed(number, 0), -1);
            same("8: lodger, " + told, state, x -> x.lodger(number, 0), -2);
            same("10: turn, " + told, state, x -> x.turn(number), -1);
            same("11: stuff, " + told, state, x -> x.stuff(number, 5), -1);
            same("12: burn, " + told, state, x -> x.burn(number), -1);
            same("13: lead, " + told, state, x -> x.lead(number, number), -2);
            for (int what = 0; what <= 2; what++) {
                int asked = what;
                same("15: ahead, " + told, state, x -> x.ahead(number, 0, asked), -2);
                same("17: row, " + told, state, x -> x.row(number, 1, asked), -3);
                same("20: lain, " + told, state, x -> x.lain(number, 0, asked), -3);
                same("24: rests, " + told, state, x -> x.rests(number, number + 1, 1, asked), -1);
            }
            same("16: comes, " + told, state, x -> x.comes(number, 0), -1);
            same("25: rent, " + told, state, x -> x.rent(0, number), -1);
            same("26: note, " + told, state, x -> x.note(0, number, -1), -2);
        }
    }

    private static void questionsWithoutCity() {
        for (int what = 0; what <= 1; what++) {
            int asked = what;
            same("18: tonight", RefusalTest::bare, x -> x.tonight(asked), -3);
            same("19: turned", RefusalTest::bare, x -> x.turned(1, asked), -2);
            same("21: twins", RefusalTest::bare, x -> x.twins(0, asked), -1);
            same("22: settled", RefusalTest::bare, x -> x.settled(asked), -1);
            same("23: best", RefusalTest::bare, x -> x.best(1, asked), -1);
            same("27: ruled", RefusalTest::bare, x -> x.ruled(asked), -3);
            same("28: look", RefusalTest::bare, x -> x.look(0, asked), -1);
            same("30: mays", RefusalTest::bare, x -> x.mays(1, 1, 0, asked), -1);
        }
        same("9: night without a CITY", RefusalTest::bare, HollowBed::night, -1);
        same("14: undo without a CITY", RefusalTest::bare, HollowBed::undo, -2);
        same("15: FAR of all without a CITY", RefusalTest::bare, x -> x.ahead(0, 0, 3), -2);
        same("18: how FAR without a CITY", RefusalTest::bare, x -> x.tonight(-1), -3);
        same("21: the first twins without a CITY", RefusalTest::bare, x -> x.twins(0, 2), -1);
        same("26: no NOTES without a CITY", RefusalTest::bare, x -> x.note(-1, 0, 0), 0);
        same("33: back without an IMAGE", RefusalTest::bare, x -> x.back(0), -1);
    }

    private static void fullOfAll() {
        same("2: more than 400", RefusalTest::full, x -> x.feed(1, 2, 3, 4, 5), -1);
        same("5: there are 6", RefusalTest::full, HollowBed::rule, -1);
        same("26: there are 10", RefusalTest::full, x -> x.note(0, 0, 0), -2);
        same("26: there are 10, on none", RefusalTest::full, x -> x.note(60, 0, -1), -2);
        same("14: none can", RefusalTest::full, HollowBed::undo, -2);
        same("6: force(6) of 6", RefusalTest::full, x -> x.force(6), -2);
    }

    private static void questionsChangeNothing() {
        String why = "by what is asked nothing changes: ";
        for (int n = 0; n <= 3; n++) {
            int what = n;
            asked(why + "bed", x -> x.bed(1, what));
            asked(why + "lodger", x -> x.lodger(1, what));
            asked(why + "ahead", x -> x.ahead(1, 100, what));
            asked(why + "row", x -> x.row(1, 4, what));
            asked(why + "tonight", x -> x.tonight(what - 1));
            asked(why + "turned", x -> x.turned(60, what));
            asked(why + "lain", x -> x.lain(0, 40, what));
            asked(why + "twins", x -> x.twins(100, what));
            asked(why + "settled", x -> x.settled(what));
            asked(why + "best", x -> x.best(60, what));
            asked(why + "rests", x -> x.rests(1, 0, 20, what));
            asked(why + "ruled", x -> x.ruled(what));
            asked(why + "look", x -> x.look(60, what));
            asked(why + "mays", x -> x.mays(10, 60, 50, what));
            asked(why + "count", x -> x.count(what));
        }
        asked(why + "comes", x -> x.comes(1, 77));
        asked(why + "rent", x -> x.rent(9999, 1));
    }

    /** "In place of the one there was": each question as of an object that never had another CITY. */
    private static void nothingOfTheCityAhead() {
        String large = "city 1 2;bed 0 99 1;bed 99 0 1;bed 9 90 1;bed 80 8 1;bed 70 7 1;"
            + "lodger 0 1 99;lodger 99 1 0;lodger 5 1 95;lodger 90 1 4;lodger 3 1 93;lodger 92 1 2";
        for (String small : new String[] {"city 60 1;bed 10 20 3;lodger 30 4 50", "city 60 1;bed 10 20 3", "city 60 1;lodger 30 4 50",
            "city 60 1", "city 60 2;bed 10 20 3;bed 12 20 3;lodger 30 4 50;lodger 9 1 10"}) {
            HollowBed x = Calls.bedsOf(large, "lie 1+bed");
            x.night();
            answers(x);
            Calls.city(x, small);
            HollowBed fresh = Calls.bedsOf(small, "lie 1+bed");
            calls.due("4: in place of the one there was: " + small, answers(x).equals(answers(fresh)) ? 1 : 0, 1);
        }
    }

    private static List<Integer> answers(HollowBed x) {
        List<Integer> seen = new ArrayList<>();
        for (int what = -1; what <= 6; what++) {
            for (int number = 0; number < 6; number++) {
                seen.addAll(List.of(x.bed(number, what), x.lodger(number, what), x.ahead(number, 3, what), x.row(number, 2, what),
                    x.lain(number, 10, what), x.rests(number, 5 - number, 2, what), x.rests(0, 1, 2, what)));
            }
            seen.addAll(List.of(x.tonight(what), x.turned(3, what), x.twins(3, what), x.settled(what), x.best(3, what)));
            seen.addAll(List.of(x.ruled(what), x.look(3, what), x.mays(2, 3, 60, what)));
        }
        for (int number = 0; number < 6; number++) seen.addAll(List.of(x.comes(number, 30), x.rent(100, number)));
        return seen;
    }

    private static void asked(String what, ToIntFunction<HollowBed> question) {
        HollowBed x = busy();
        int first = question.applyAsInt(x);
        calls.due(what + ", asked again", question.applyAsInt(x), first);
        calls.due(what, trail(x).equals(trail(busy())) ? 1 : 0, 1);
    }
}
