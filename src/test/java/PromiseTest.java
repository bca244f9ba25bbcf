/** Each promise by examples worked out by hand: ordinary inputs, edges and wrong inputs. */
public final class PromiseTest {
    /** Three LODGERS on two BEDS: LODGERS 0 and 1 lie on BED 0, LODGER 2 on BED 1. */
    private static final String TOWN =
        "city 2 2;bed 10 90 2;bed 60 40 3;lodger 30 4 0;lodger 31 5 99;lodger 80 1 50";
    private static final int LEAST = Integer.MIN_VALUE;
    private static final int MOST = Integer.MAX_VALUE;
    private static final Calls calls = new Calls();

    public static void main(String[] args) {
        newObject();
        feedAndEnd();
        city();
        rule();
        force();
        bedAndLodger();
        night();
        nightByRule();
        valuesOfRules();
        turnStuffBurnLead();
        undo();
        ahead();
        comes();
        row();
        tonight();
        turned();
        lain();
        twins();
        settled();
        best();
        rests();
        rent();
        note();
        ruledAndLook();
        seed();
        mays();
        count();
        imageAndBack();
        calls.close("PromiseTest");
    }

    private static void due(String what, int got, int want) {
        calls.due(what, got, want);
    }

    private static void dues(String what, int[] got, int... want) {
        calls.dues(what, got, want);
    }

    private static int[] of(int... answers) {
        return answers;
    }

    private static HollowBed town() {
        return Calls.bedsOf(TOWN);
    }

    private static void nights(HollowBed x, int n) {
        Calls.nights(x, n);
    }

    private static void newObject() {
        HollowBed x = new HollowBed();
        for (int what = 0; what <= 13; what++) due("1: count " + what, x.count(what), what == 5 ? -1 : 0);
        dues("1: nothing there", of(x.bed(0, 0), x.lodger(0, 0), x.night(), x.undo(), x.rule(), x.city()),
            -1, -2, -1, -2, -3, -3);
        dues("1: no IMAGES", of(x.back(0), x.back(1), x.back(2), x.back(3)), -1, -1, -1, -1);
        due("1: NONE", HollowBed.NONE, -1);
    }

    private static void feedAndEnd() {
        HollowBed x = new HollowBed();
        for (int i = 1; i <= 20; i++) due("2: feed " + i, x.feed(i, -1, LEAST, MOST, 0), 20 * i);
        due("2: more than 400", x.feed(0, 0, 0, 0, 0), -1);
        due("2: none came", x.count(13), 400);
        due("3: all", x.end(400), 400);
        due("3: too many", x.end(401), -1);
        due("3: below 0", x.end(-1), -1);
        due("3: stays", x.count(13), 400);
        due("3: fewer", x.end(381), 381);
        due("2: 381 and 20", x.feed(0, 0, 0, 0, 0), -1);
        due("3: 380", x.end(380), 380);
        due("2: 380 and 20", x.feed(0, 0, 0, 0, 0), 400);
        due("3: none", x.end(0), 0);
        due("3: 1 of none", x.end(1), -1);
        due("3: far", x.end(MOST), -1);
        due("3: far below", x.end(LEAST), -1);
        // The highest byte of each number stands first, and what was cut off is gone.
        x.feed(0x6c696520, 0x39393939, 0x39303030, 0x30303030, 0x30303030);
        x.end(9);
        due("2: order of bytes", x.rule(), 0);
    }

    private static void city() {
        HollowBed x = town();
        Calls.rule(x, "lie 1");
        x.force(0);
        x.seed(7);
        x.night();
        x.note(0, 0, 0);
        due("4: BEDS", Calls.city(x, "city 5 3;bed 1 2 3;bed 4 5 6;bed 7 8 9;lodger 11 1 22"), 3);
        dues("4: the new one", of(x.count(0), x.count(1), x.count(2), x.count(3), x.count(6)), 5, 3, 3, 1, 0);
        dues("4: what goes", of(x.count(9), x.count(10), x.count(11), x.undo()), 0, 0, 0, -2);
        dues("4: what stays", of(x.count(4), x.count(5), x.count(12)), 1, 0, 7);
        dues("4: nobody has lain", of(x.lodger(0, 3), x.lodger(0, 4), x.bed(0, 3)), -1, 0, 0);
        dues("4: BED 2", of(x.bed(2, 0), x.bed(2, 1), x.bed(2, 2)), 7, 8, 9);
        due("4: without any", Calls.city(x, "city 1 1"), 0);
        due("4: no BED of the one ahead", x.bed(0, 0), -1);
        x.night();
        x.note(-1, 0, 0);
        due("4: FAULT", Calls.city(x, "city 1 1;bed 1 1"), -2 - (1 + 8 * 16));
        dues("4: all stays", of(x.count(6), x.count(11), x.count(13)), 1, 1, 0);
    }

    private static void rule() {
        HollowBed x = new HollowBed();
        for (int i = 0; i < 6; i++) due("5: number " + i, Calls.rule(x, "lie " + i), i);
        due("5: FAULT is not looked for", Calls.rule(x, "lie"), -1);
        due("5: TAPE stays", x.count(13), 3);
        due("5: RULES", x.count(4), 6);
        HollowBed y = new HollowBed();
        due("5: FAULT", Calls.rule(y, "lie"), -2 - 25);
        due("5: after a FAULT", Calls.rule(y, "lie 1"), 0);
    }

    private static void force() {
        HollowBed x = new HollowBed();
        due("6: none of none", x.force(-1), -1);
        due("6: 0 of none", x.force(0), -2);
        Calls.rule(x, "lie 1");
        Calls.rule(x, "lie 2");
        dues("6: which was", of(x.force(0), x.force(1), x.force(1), x.force(-1), x.force(0)), -1, 0, 1, 1, -1);
        dues("6: none such", of(x.force(2), x.force(-2), x.force(MOST), x.force(LEAST)), -2, -2, -2, -2);
        due("6: nothing happens", x.count(5), 0);
    }

    private static void bedAndLodger() {
        HollowBed x = town();
        dues("7: BED 1", of(x.bed(1, 0), x.bed(1, 1), x.bed(1, 2), x.bed(1, 3)), 60, 40, 3, 0);
        dues("7: without", of(x.bed(2, 0), x.bed(-1, 0), x.bed(0, 4), x.bed(0, -1), x.bed(MOST, 0),
            x.bed(LEAST, 3), x.bed(0, MOST)), -1, -1, -1, -1, -1, -1, -1);
        dues("8: LODGER 1", of(x.lodger(1, 0), x.lodger(1, 1), x.lodger(1, 2), x.lodger(1, 3), x.lodger(1, 4),
            x.lodger(1, 5)), 31, 5, 99, -1, 0, 68);
        dues("8: without", of(x.lodger(3, 0), x.lodger(-1, 0), x.lodger(0, 6), x.lodger(0, -1), x.lodger(MOST, 0),
            x.lodger(LEAST, 5)), -2, -2, -2, -2, -2, -2);
        nights(x, 2);
        dues("7: who lay there", of(x.bed(0, 3), x.bed(1, 3)), 3, 4);
        dues("8: behind two NIGHTS", of(x.lodger(2, 3), x.lodger(2, 4), x.lodger(2, 5)), 1, 2, 16);
    }

    private static void night() {
        HollowBed x = town();
        due("9: three lie", x.night(), 3);
        dues("9: SHAPES", of(x.lodger(0, 0), x.lodger(1, 0), x.lodger(2, 0)), 25, 27, 60);
        dues("9: HOLLOWS", of(x.bed(0, 0), x.bed(0, 1), x.bed(1, 0), x.bed(1, 1)), 20, 90, 66, 40);
        due("9: again", x.night(), 3);
        dues("9: SHAPES then", of(x.lodger(0, 0), x.lodger(1, 0), x.lodger(2, 0)), 24, 26, 66);
        dues("9: carded", of(x.bed(0, 0), x.bed(0, 1), x.bed(1, 0), x.bed(1, 1)), 36, 70, 57, 45);
        dues("9: counted", of(x.count(6), x.count(9), x.count(11)), 2, 6, 2);
        due("9: without a CITY", new HollowBed().night(), -1);
        HollowBed full = Calls.bedsOf("city 9 1;bed 50 0 9;lodger 0 1 50;lodger 0 1 50");
        due("9: one on the floor", full.night(), 1);
        dues("9: the floor", of(full.lodger(0, 0), full.lodger(1, 0), full.lodger(1, 3), full.lodger(1, 4)), 50, 0, -1, 0);
        full.lead(1, 0);
        due("9: LODGER 0 is first all the same", full.night(), 1);
        due("9: no room where they lay", full.lodger(1, 3), -1);
        HollowBed bare = Calls.bedsOf("city 1 1");
        for (int i = 0; i < 999; i++) bare.night();
        dues("9: NIGHT 999", of(bare.count(6), bare.night(), bare.count(6), bare.count(11)), 999, -1, 999, 20);
        HollowBed gone = Calls.bedsOf("city 60 1;bed 10 0 9;bed 20 0 9;lodger 0 9 0;lodger 0 9 0");
        gone.lead(1, 0);
        gone.lead(0, 1);
        gone.night();
        dues("9: without a RULE as on the NIGHT ahead", of(gone.lodger(0, 3), gone.lodger(1, 3)), 1, 0);
    }

    private static void nightByRule() {
        HollowBed least = Calls.bedsOf("city 9 6;bed 1 1 1;bed 2 2 2;bed 3 3 3;lodger 50 1 0", "lie stuff/2");
        least.night();
        due("9: of several the least", least.lodger(0, 3), 1);
        HollowBed zero = Calls.bedsOf("city 9 6;bed 1 1 1;lodger 50 1 0", "lie 1-1");
        due("9: not above 0", zero.night(), 0);
        HollowBed first = Calls.bedsOf("city 9 6;bed 1 1 1;bed 2 2 2;bed 3 3 3;lodger 50 1 0",
            "lie 5 if bed=1;lie 4 if bed>=1;lie 9 if bed=1");
        first.night();
        due("9: the first CLAUSE that holds", first.lodger(0, 3), 1);
        HollowBed never = Calls.bedsOf("city 9 6;bed 1 1 1;lodger 50 1 0", "lie 5 if bed=1");
        due("9: no CLAUSE holds", never.night(), 0);
        String eleven = "lie 9 if 1=2;".repeat(11);
        due("9: the twelfth CLAUSE", Calls.bedsOf(TOWN, eleven + "lie 1").night(), 3);
        due("9: the twelfth CLAUSE holds", Calls.bedsOf(TOWN, eleven + "lie 1 if bed=1").night(), 2);
        due("9: the twelfth CLAUSE does not", Calls.bedsOf(TOWN, eleven + "lie 1 if bed=2").night(), 0);
        HollowBed room = Calls.bedsOf("city 9 2;bed 1 1 1;bed 2 2 2;lodger 50 1 0;lodger 50 1 0;lodger 50 1 0;lodger 5 1 0",
            "lie room*10+bed if room=1 or bed=0;lie 5");
        due("9: room at their turn", room.night(), 4);
        dues("9: where", of(room.lodger(0, 3), room.lodger(1, 3), room.lodger(2, 3), room.lodger(3, 3)), 0, 0, 1, 1);
        HollowBed last = Calls.bedsOf("city 9 1;bed 1 1 1;bed 2 2 2;lodger 50 1 0", "lie 2-last");
        last.lead(0, 0);
        last.night();
        due("9: last", last.lodger(0, 3), 1);
        HollowBed none = Calls.bedsOf("city 9 1;bed 1 1 1;lodger 50 1 0", "lie 0");
        none.force(-1);
        due("9: none IN FORCE", none.night(), 1);
    }

    /** LODGER 1, BED 1: shape 31, body 5, wants 99, hollow 60, under 40, stuff 3, room 2, near 29. */
    private static void valuesOfRules() {
        values("lodger", 1);
        values("bed", 1);
        values("shape", 31);
        values("body", 5);
        values("wants", 99);
        values("hollow", 60);
        values("under", 40);
        values("stuff", 3);
        values("room", 2);
        values("last", 0);
        values("near", 29);
        values("night", 0);
        values("2+3*4-10/3%2", 13);
        values("20-5-4", 11);
        values("100/7/2", 7);
        values("100%7*3", 6);
        values("7/0+5%0+1", 1);
        values("0-7/2", -3);
        values("0-7%4", -3);
        values("99999", 99999);
        values("65536*65536*65536*65536-1", -1);
        HollowBed round = Calls.bedsOf("city 9 1;bed 1 1 1;lodger 50 1 0", "lie 32768*65536*65536*65536*1");
        due("9: goes round below 0", round.night(), 0);
        HollowBed back = Calls.bedsOf("city 9 1;bed 1 1 1;lodger 50 1 0", "lie 32768*65536*65536*65536-1");
        due("9: goes round above 0", back.night(), 1);
        tests("1<2", true);
        tests("2<2", false);
        tests("2<=2", true);
        tests("2=2", true);
        tests("2=3", false);
        tests("2>=3", false);
        tests("3>=3", true);
        tests("3>3", false);
        tests("4>3", true);
        tests("1=2 and 1=1 or 1=1", true);
        tests("1=1 or 1=1 and 1=2", true);
        tests("[1=1 or 1=1] and 1=2", false);
        tests("not 1=1 or 1=1", true);
        tests("not [1=1 or 1=1]", false);
        tests("not not 1=1", true);
        tests("not 1=2 and 1=2", false);
    }

    /** TURNED by a value v: LODGER 1 lies on BED 1 if v is as told, else on the floor. */
    private static void values(String sum, int want) {
        HollowBed x = Calls.bedsOf(TOWN, "lie 1 if lodger=1 and bed=1 and " + sum + "=" + (want < 0 ? "0-" : "") + Math.abs(want));
        x.night();
        due("9: value of " + sum, x.lodger(1, 3), 1);
    }

    private static void tests(String test, boolean holds) {
        HollowBed x = Calls.bedsOf(TOWN, "lie 1 if " + test);
        due("9: " + test, x.night(), holds ? 3 : 0);
    }

    private static void turnStuffBurnLead() {
        HollowBed x = town();
        dues("10: HOLLOW then", of(x.turn(0), x.bed(0, 0), x.bed(0, 1), x.turn(0)), 90, 90, 10, 10);
        dues("10: without", of(x.turn(2), x.turn(-1), x.turn(MOST), x.turn(LEAST), x.count(11)), -1, -1, -1, -1, 2);
        dues("11: which it was", of(x.stuff(1, 9), x.stuff(1, 1), x.bed(1, 2)), 3, 9, 1);
        dues("11: without", of(x.stuff(1, 1), x.stuff(1, 0), x.stuff(1, 10), x.stuff(2, 5), x.stuff(-1, 5),
            x.stuff(0, MOST), x.count(11)), -1, -1, -1, -1, -1, -1, 4);
        dues("12: HOLLOW as it was", of(x.burn(1), x.bed(1, 0), x.bed(1, 1), x.bed(1, 2)), 60, 50, 50, 1);
        dues("12: without", of(x.burn(1), x.burn(2), x.burn(-1), x.burn(LEAST), x.count(11)), -1, -1, -1, -1, 5);
        HollowBed half = Calls.bedsOf("city 1 1;bed 50 49 1;bed 51 50 1");
        dues("12: one side is 50", of(half.burn(0), half.burn(1)), 50, 51);
        dues("13: where they lay", of(x.lead(2, 0), x.lead(2, 1), x.lead(2, 0)), -1, 0, 1);
        dues("13: without", of(x.lead(2, 0), x.lead(2, 2), x.lead(2, -1), x.lead(3, 0), x.lead(-1, 0), x.lead(LEAST, MOST)),
            -2, -2, -2, -2, -2, -2);
        dues("13: beyond ROOM", of(x.lead(0, 0), x.lead(1, 0), x.bed(0, 3), x.lodger(2, 3), x.lodger(2, 4)), -1, -1, 7, 0, 0);
        due("10 to 13: ACTS", x.count(11), 10);
        Calls.city(x, "city 1 1;bed 5 5 5");
        due("10: both sides alike", x.turn(0), 5);
        due("10: an ACT all the same", x.count(11), 1);
    }

    private static void undo() {
        HollowBed x = town();
        due("14: none can", x.undo(), -2);
        x.night();
        x.turn(1);
        x.stuff(0, 7);
        x.burn(0);
        x.lead(0, 1);
        due("14: LEAD", x.undo(), 4);
        due("14: where", x.lodger(0, 3), 0);
        due("14: BURN", x.undo(), 3);
        dues("14: both sides", of(x.bed(0, 0), x.bed(0, 1)), 20, 90);
        due("14: STUFF", x.undo(), 2);
        due("14: stuff", x.bed(0, 2), 2);
        x.force(-1);
        x.seed(99);
        x.note(1, 1, 1);
        due("14: TURN", x.undo(), 1);
        dues("14: sides", of(x.bed(1, 0), x.bed(1, 1)), 66, 40);
        due("14: NIGHT", x.undo(), 0);
        dues("14: as it was", of(x.count(6), x.lodger(0, 0), x.lodger(0, 3), x.lodger(0, 4), x.bed(0, 0), x.count(9)),
            0, 30, -1, 0, 10, 0);
        dues("14: no ACTS", of(x.count(12), x.count(10)), 99, 1);
        for (int i = 0; i < 25; i++) x.turn(0);
        due("14: 20 at most", x.count(11), 20);
        for (int i = 19; i >= 0; i--) due("14: more " + i, x.undo(), i);
        due("14: the first 5 stay", x.bed(0, 0), 90);
        due("14: no more", x.undo(), -2);
        nights(x, 22);
        x.undo();
        x.undo();
        nights(x, 1);
        due("14: NIGHT behind", x.count(6), 21);
        due("14: ACTS then", x.count(11), 19);
        for (int i = 0; i < 19; i++) x.undo();
        due("14: NIGHT behind all", x.count(6), 2);
    }

    private static void ahead() {
        HollowBed x = town();
        dues("15: SHAPES", of(x.ahead(0, 0, 0), x.ahead(1, 1, 0), x.ahead(2, 2, 0)), 30, 27, 66);
        dues("15: where", of(x.ahead(0, 0, 1), x.ahead(1, 1, 1), x.ahead(2, 2, 1)), -1, 0, 1);
        dues("15: HOLLOWS", of(x.ahead(0, 0, 2), x.ahead(1, 1, 2), x.ahead(0, 2, 2)), 10, 66, 36);
        dues("15: FAR", of(x.ahead(0, 0, 3), x.ahead(-5, 1, 3), x.ahead(MOST, 2, 3)), 128, 107, 113);
        dues("15: without", of(x.ahead(3, 1, 0), x.ahead(-1, 1, 0), x.ahead(3, 1, 1), x.ahead(2, 1, 2), x.ahead(-1, 1, 2),
            x.ahead(0, -1, 3), x.ahead(0, 101, 3), x.ahead(0, 1, 4), x.ahead(0, 1, -1)), -2, -2, -2, -2, -2, -2, -2, -2, -2);
        due("15: nothing changes", x.count(6), 0);
        HollowBed y = town();
        nights(y, 100);
        dues("15: 100 NIGHTS", of(x.ahead(0, 100, 0), x.ahead(1, 100, 2), x.ahead(0, 100, 3)),
            y.lodger(0, 0), y.bed(1, 0), y.count(7));
        HollowBed late = Calls.bedsOf("city 60 1;bed 1 1 1;bed 2 2 2;lodger 0 9 0", "lie 1+bed if night>=1000;lie 2-bed");
        for (int i = 0; i < 999; i++) late.night();
        dues("15: beyond 999", of(late.ahead(0, 1, 1), late.ahead(0, 2, 1)), 0, 1);
        due("15: no LODGERS", Calls.bedsOf("city 1 1;bed 1 2 3").ahead(0, 100, 3), 0);
        due("15: no CITY", new HollowBed().ahead(0, 0, 3), -2);
    }

    private static void comes() {
        HollowBed x = town();
        dues("16: at once", of(x.comes(0, 30), x.comes(1, 31)), 0, 0);
        dues("16: later", of(x.comes(0, 25), x.comes(0, 24), x.comes(2, 66)), 1, 2, 2);
        due("16: at none", x.comes(0, 99), -2);
        dues("16: without", of(x.comes(3, 1), x.comes(-1, 1), x.comes(0, -1), x.comes(0, 100)), -1, -1, -1, -1);
        x.night();
        dues("16: by the NIGHT's number", of(x.comes(0, 25), x.comes(0, 24)), 1, 2);
        HollowBed slow = Calls.bedsOf("city 60 1;bed 9 9 9;lodger 0 1 0", "lie 1 if night>=198");
        due("16: NIGHT 199 is the last of 200", slow.comes(0, 9), -2);
        HollowBed soon = Calls.bedsOf("city 60 1;bed 50 50 9;lodger 0 1 0", "lie 1 if night=198");
        due("16: at the begin of NIGHT 199", soon.comes(0, 50), 199);
        HollowBed late = Calls.bedsOf("city 60 1;bed 50 50 9;lodger 0 1 0", "lie 1 if night=199");
        due("16: at the begin of NIGHT 200", late.comes(0, 50), -2);
        due("16: no CITY", new HollowBed().comes(0, 0), -1);
    }

    private static void row() {
        HollowBed x = town();
        dues("17: one NIGHT", of(x.row(0, 1, 0), x.row(0, 1, 1), x.row(0, 1, 2), x.row(0, 1, 4)), 25, 0, -2, -2);
        dues("17: LODGER 2", of(x.row(2, 1, 0), x.row(2, 1, 1)), 10, 1);
        dues("17: without", of(x.row(3, 1, 0), x.row(-1, 1, 0), x.row(0, 0, 0), x.row(0, 5, 0), x.row(0, 1, -1),
            x.row(0, 1, 5)), -3, -3, -3, -3, -3, -3);
        // 0 wants to come from 0 to 20: on BED 1 (hollow 40) halfway, then stays on none.
        HollowBed two = Calls.bedsOf("city 60 1;bed 90 0 9;bed 40 0 9;lodger 0 2 20");
        dues("17: two NIGHTS", of(two.row(0, 2, 0), two.row(0, 2, 1), two.row(0, 2, 2)), 0, -1, 1);
        dues("17: four NIGHTS", of(two.row(0, 4, 0), two.row(0, 4, 1), two.row(0, 4, 2), two.row(0, 4, 3), two.row(0, 4, 4)),
            0, -1, -1, -1, 1);
        HollowBed full = Calls.bedsOf("city 9 1;bed 50 0 9;bed 0 0 9;lodger 0 1 0;lodger 0 1 50");
        dues("17: no room at their turn", of(full.row(1, 1, 0), full.row(1, 1, 1), full.row(1, 3, 0), full.row(1, 3, 2)),
            50, -1, 50, -1);
        HollowBed ruled = Calls.bedsOf("city 9 1;bed 50 0 9;bed 0 0 9;lodger 0 1 0;lodger 0 1 50", "lie 1 if lodger=0 and bed=1");
        dues("17: in place of the RULE", of(ruled.row(1, 1, 0), ruled.row(1, 1, 1)), 0, 0);
        due("17: no CITY", new HollowBed().row(0, 1, 0), -3);
    }

    private static void tonight() {
        HollowBed x = town();
        dues("18: all", of(x.tonight(-1), x.tonight(0), x.tonight(1), x.tonight(2), x.tonight(3), x.tonight(5)),
            98, 0, 1, 1, -2, -2);
        dues("18: others", of(x.tonight(-2), x.tonight(6), x.tonight(MOST), x.tonight(LEAST)), -3, -3, -3, -3);
        HollowBed one = Calls.bedsOf(TOWN.replace("city 2 2", "city 2 1"));
        dues("18: ROOM 1", of(one.tonight(-1), one.tonight(0), one.tonight(1), one.tonight(2)), 103, 0, -1, 1);
        HollowBed even = Calls.bedsOf("city 2 1;bed 50 0 9;bed 50 0 9;lodger 50 1 50;lodger 0 1 50;lodger 0 1 50");
        dues("18: of several the first row", of(even.tonight(-1), even.tonight(0), even.tonight(1), even.tonight(2)), 0, -1, 0, 1);
        HollowBed none = Calls.bedsOf("city 2 1;bed 50 0 9");
        dues("18: no LODGERS", of(none.tonight(-1), none.tonight(0)), 0, -2);
        due("18: no CITY", new HollowBed().tonight(-1), -3);
        due("18: no CITY, no LODGER", new HollowBed().tonight(0), -3);
    }

    private static void turned() {
        HollowBed x = town();
        dues("19: none ahead of BED 1", of(x.turned(1, 0), x.turned(1, 1)), -1, 107);
        HollowBed y = Calls.bedsOf("city 9 2;bed 0 50 1;bed 0 50 1;lodger 0 1 50;lodger 0 1 0", "lie 1 if lodger=0 and bed=night%2");
        dues("19: BED 0", of(y.turned(1, 0), y.turned(1, 1)), 0, 0);
        dues("19: BED 1", of(y.turned(2, 0), y.turned(2, 1)), 1, 0);
        dues("19: nothing changes", of(y.bed(0, 0), y.count(11)), 0, 0);
        dues("19: without", of(x.turned(0, 0), x.turned(61, 0), x.turned(1, 2), x.turned(1, -1), new HollowBed().turned(1, 0)),
            -2, -2, -2, -2, -2);
        HollowBed even = Calls.bedsOf("city 9 1;bed 0 50 1;bed 0 50 1;lodger 0 1 50;lodger 0 1 50");
        dues("19: of BEDS the least", of(even.turned(1, 0), even.turned(1, 1)), 0, 50);
        due("19: no BEDS", Calls.bedsOf("city 9 1;lodger 0 1 9").turned(60, 0), -1);
    }

    private static void lain() {
        HollowBed x = town();
        dues("20: 20", of(x.lain(0, 20, 0), x.lain(0, 20, 1), x.lain(0, 20, 2)), 3, 1, 0);
        dues("20: 32", of(x.lain(0, 32, 0), x.lain(0, 32, 1), x.lain(0, 32, 2)), 2, 5, 4);
        dues("20: nobody", of(x.lain(0, 10, 0), x.lain(0, 10, 1), x.lain(0, 10, 2)), 1, 0, 0);
        dues("20: one", of(x.lain(0, 45, 0), x.lain(0, 45, 1), x.lain(0, 45, 2)), 1, 4, 4);
        dues("20: none such", of(x.lain(0, 11, 0), x.lain(0, 11, 1), x.lain(0, 11, 2)), 0, -2, 0);
        // All three: 141 / 3 = 47, 10 + 37 / 2 = 28; ROOM is 2.
        due("20: ROOM at most", x.lain(0, 28, 0), 0);
        due("20: ROOM is there", Calls.bedsOf(TOWN.replace("city 2 2", "city 2 3")).lain(0, 28, 1), 7);
        dues("20: without", of(x.lain(2, 1, 0), x.lain(-1, 1, 0), x.lain(0, -1, 0), x.lain(0, 100, 0), x.lain(0, 1, 3),
            x.lain(0, 1, -1), new HollowBed().lain(0, 1, 0)), -3, -3, -3, -3, -3, -3, -3);
        HollowBed may = Calls.bedsOf("city 1 1;bed 10 10 1;lodger 30 1 1");
        dues("20: behind (2), ahead of (3)", of(may.lain(0, 30, 1), may.lain(0, 40, 1)), 1, -2);
    }

    private static void twins() {
        HollowBed x = Calls.bedsOf("city 9 3;bed 40 0 9;lodger 20 2 0;lodger 40 1 0;lodger 30 3 0;lodger 40 3 0;lodger 40 4 0",
            "lie 1 if lodger=0");
        dues("21: now", of(x.twins(0, 0), x.twins(0, 1), x.twins(0, 2)), 3, 1, 3);
        // LODGER 0 comes to 30, as LODGER 2 has it.
        dues("21: in one NIGHT", of(x.twins(1, 0), x.twins(1, 1), x.twins(1, 2)), 4, 0, 2);
        HollowBed y = town();
        dues("21: none", of(y.twins(0, 0), y.twins(0, 1), y.twins(0, 2)), 0, -2, -2);
        dues("21: without", of(y.twins(-1, 0), y.twins(101, 0), y.twins(0, 3), y.twins(0, -1), new HollowBed().twins(0, 0)),
            -1, -1, -1, -1, -1);
        due("21: no LODGERS", Calls.bedsOf("city 9 3").twins(100, 0), 0);
    }

    private static void settled() {
        HollowBed x = Calls.bedsOf("city 60 1;bed 50 0 1;lodger 50 1 0");
        dues("22: at once", of(x.settled(0), x.settled(1)), 0, 1);
        nights(x, 5);
        dues("22: by the NIGHT's number", of(x.settled(0), x.settled(1)), 5, 1);
        // SHAPE and HOLLOW change places each NIGHT.
        HollowBed swap = Calls.bedsOf("city 60 1;bed 20 0 1;lodger 50 1 0");
        dues("22: two later", of(swap.settled(0), swap.settled(1)), 0, 2);
        // SHAPES 10, 12, 13, 14, 15 and no nearer; HOLLOWS 20, 19, 19 ..
        HollowBed soon = Calls.bedsOf("city 60 1;bed 20 0 9;lodger 10 5 0");
        dues("22: when it has come to rest", of(soon.settled(0), soon.settled(1)), 4, 1);
        HollowBed first = Calls.bedsOf("city 60 1;bed 20 0 1;lodger 50 1 0", "lie 1 if night=9");
        dues("22: the first later one", of(first.settled(0), first.settled(1)), 0, 1);
        HollowBed bare = Calls.bedsOf("city 60 1");
        dues("22: nothing to differ", of(bare.settled(0), bare.settled(1)), 0, 1);
        // One SHAPE is carried through five BEDS so that 61 begins are all unlike.
        String five = "city 60 1;bed 0 0 1;bed 20 0 1;bed 40 0 1;bed 60 0 1;bed 80 0 1;lodger 99 1 0";
        HollowBed never = Calls.bedsOf(five, "lie 1 if night%13%5=bed");
        dues("22: never", of(never.settled(0), never.settled(1)), -2, -2);
        HollowBed late = Calls.bedsOf(five, "lie 1 if night<89 and night%13%5=bed");
        nights(late, 30);
        dues("22: NIGHT 89 is the last of 60", of(late.settled(0), late.settled(1)), 89, 1);
        HollowBed later = Calls.bedsOf(five, "lie 1 if night<90 and night%13%5=bed");
        nights(later, 30);
        dues("22: NIGHT 90 is beyond", of(later.settled(0), later.settled(1)), -2, -2);
        dues("22: others", of(x.settled(-1), x.settled(2), new HollowBed().settled(0)), -1, -1, -1);
    }

    private static void best() {
        HollowBed x = Calls.bedsOf("city 60 1;bed 0 0 9;lodger 0 1 50");
        dues("23: each NIGHT", of(x.best(2, 0), x.best(2, 1)), 1, 25);
        HollowBed y = Calls.bedsOf("city 60 1;bed 0 0 9;lodger 0 1 0");
        dues("23: of several the least", of(y.best(2, 0), y.best(2, 1)), 2, 0);
        dues("23: one NIGHT", of(x.best(1, 0), x.best(1, 1)), 1, 50);
        // At NIGHT 1, CARD 1 and 2 card on it: two NIGHTS on, SHAPE has come to 25.
        x.night();
        dues("23: from this NIGHT on", of(x.best(2, 0), x.best(2, 1)), 1, 25);
        y.night();
        dues("23: the rest of NIGHT counts", of(y.best(2, 0), y.best(2, 1)), 3, 0);
        due("23: CARD stays", x.count(0), 60);
        dues("23: without", of(x.best(0, 0), x.best(61, 0), x.best(1, 2), x.best(1, -1), new HollowBed().best(1, 0)),
            -1, -1, -1, -1, -1);
        dues("23: nobody", of(Calls.bedsOf("city 9 1").best(60, 0), Calls.bedsOf("city 9 1").best(60, 1)), 1, 0);
    }

    private static void rests() {
        HollowBed x = Calls.bedsOf("city 60 1;bed 10 0 9;bed 90 0 9;lodger 50 1 90;lodger 50 1 10");
        dues("24: each their own", of(x.rests(0, 1, 1, 0), x.rests(0, 1, 1, 1), x.rests(0, 1, 1, 2)), 1, 1, 0);
        dues("24: the other first", of(x.rests(1, 0, 1, 0), x.rests(1, 0, 1, 1), x.rests(1, 0, 1, 2)), 1, 0, 1);
        HollowBed both = Calls.bedsOf("city 60 1;bed 10 0 9;bed 90 0 9;lodger 50 1 10;lodger 50 1 10");
        dues("24: rather none", of(both.rests(0, 1, 1, 0), both.rests(0, 1, 1, 1), both.rests(0, 1, 1, 2)), 1, 0, 0);
        HollowBed alike = Calls.bedsOf("city 60 2;bed 50 0 9;bed 50 0 9;lodger 50 1 10;lodger 50 1 10");
        dues("24: all", of(alike.rests(0, 1, 20, 0), alike.rests(0, 1, 20, 1), alike.rests(0, 1, 20, 2)), 4, 0, 0);
        HollowBed bare = Calls.bedsOf("city 60 2;lodger 50 1 10;lodger 50 1 10");
        dues("24: no BEDS", of(bare.rests(0, 1, 1, 0), bare.rests(0, 1, 1, 1), bare.rests(0, 1, 1, 2)), 0, -2, -2);
        dues("24: without", of(x.rests(0, 0, 1, 0), x.rests(0, 2, 1, 0), x.rests(-1, 0, 1, 0), x.rests(0, 1, 0, 0),
            x.rests(0, 1, 21, 0), x.rests(0, 1, 1, 3), x.rests(0, 1, 1, -1), new HollowBed().rests(0, 1, 1, 0)),
            -1, -1, -1, -1, -1, -1, -1, -1);
        // LODGER 0 lies on BED 0 by the RULE, ahead of the two, who have no room there.
        HollowBed third = Calls.bedsOf("city 60 1;bed 10 0 9;bed 90 0 9;lodger 10 1 10;lodger 50 1 10;lodger 50 1 10", "lie 2-bed");
        dues("24: others by the RULE", of(third.rests(1, 2, 1, 0), third.rests(1, 2, 1, 1), third.rests(1, 2, 1, 2)), 1, 0, 0);
    }

    private static void rent() {
        HollowBed x = Calls.bedsOf("city 60 6;bed 10 0 9;lodger 1 1 1;lodger 2 1 1;lodger 3 1 1", "lie 1 if lodger<=night");
        dues("25: nobody did", of(x.rent(9999, 0), x.rent(1, 2)), 0, 0);
        nights(x, 3);
        dues("25: 3, 2 and 1 of 10", of(x.rent(10, 0), x.rent(10, 1), x.rent(10, 2)), 5, 3, 2);
        dues("25: of 1", of(x.rent(1, 0), x.rent(1, 1), x.rent(1, 2)), 1, 0, 0);
        dues("25: of 2", of(x.rent(2, 0), x.rent(2, 1), x.rent(2, 2)), 1, 1, 0);
        dues("25: of 6", of(x.rent(6, 0), x.rent(6, 1), x.rent(6, 2)), 3, 2, 1);
        dues("25: of 9999", of(x.rent(9999, 0), x.rent(9999, 1), x.rent(9999, 2)), 5000, 3333, 1666);
        dues("25: of 0", of(x.rent(0, 0), x.rent(0, 1)), 0, 0);
        dues("25: without", of(x.rent(-1, 0), x.rent(10000, 0), x.rent(1, 3), x.rent(1, -1), new HollowBed().rent(1, 0)),
            -1, -1, -1, -1, -1);
        HollowBed even = Calls.bedsOf("city 60 6;bed 10 0 9;lodger 1 1 1;lodger 2 1 1;lodger 3 1 1");
        even.night();
        dues("25: of several the least first", of(even.rent(8, 0), even.rent(8, 1), even.rent(8, 2)), 3, 3, 2);
    }

    private static void note() {
        HollowBed x = town();
        dues("26: how many", of(x.note(0, 0, 0), x.note(60, 2, -1), x.note(0, 0, 0)), 1, 2, 3);
        dues("26: without", of(x.note(61, 0, 0), x.note(-2, 0, 0), x.note(0, 3, 0), x.note(0, -1, 0), x.note(0, 0, 2),
            x.note(0, 0, -2), x.count(10)), -2, -2, -2, -2, -2, -2, 3);
        for (int i = 4; i <= 10; i++) due("26: " + i, x.note(i, 0, 0), i);
        dues("26: 10 at most", of(x.note(0, 0, 0), x.count(10)), -2, 10);
        dues("26: none", of(x.note(-1, 99, -99), x.count(10)), 0, 0);
        due("26: no ACT", x.count(11), 0);
        dues("26: no CITY", of(new HollowBed().note(-1, 0, 0), new HollowBed().note(0, 0, -1)), 0, -2);
    }

    /** By none both lie on BED 0, by RULE 0 both on BED 1, by RULE 1 on BED 0 and BED 1. */
    private static void ruledAndLook() {
        HollowBed x = Calls.bedsOf("city 60 2;bed 10 0 9;bed 90 0 9;lodger 50 1 90;lodger 50 1 10");
        Calls.rule(x, "lie 1+bed");
        Calls.rule(x, "lie 1+bed if lodger=1;lie 5-bed");
        dues("27: all", of(x.ruled(0), x.ruled(1)), 3, -1);
        dues("28: all", of(x.look(0, 0), x.look(0, 1)), 0, 2);
        x.note(0, 0, 1);
        dues("27: RULE 0", of(x.ruled(0), x.ruled(1)), 1, 0);
        dues("28: RULE 0", of(x.look(60, 0), x.look(60, 1)), 0, 1);
        x.note(1, 0, 0);
        dues("27: none such", of(x.ruled(0), x.ruled(1)), 0, -2);
        dues("28: none such", of(x.look(0, 0), x.look(0, 1)), -2, -2);
        x.note(-1, 0, 0);
        x.note(60, 0, 0);
        dues("27: two", of(x.ruled(0), x.ruled(1)), 2, -1);
        dues("28: two", of(x.look(0, 0), x.look(0, 1)), 1, 1);
        x.turn(0);
        x.stuff(0, 1);
        x.lead(0, 1);
        nights(x, 3);
        x.force(0);
        dues("27: all as the text told it", of(x.ruled(0), x.ruled(1)), 2, -1);
        x.note(60, 1, 1);
        dues("27: RULE 1", of(x.ruled(0), x.ruled(1)), 1, 1);
        dues("27: others", of(x.ruled(-1), x.ruled(2), new HollowBed().ruled(0)), -3, -3, -3);
        dues("28: without", of(x.look(-1, 0), x.look(61, 0), x.look(0, 2), x.look(0, -1), new HollowBed().look(0, 0)),
            -1, -1, -1, -1, -1);
        HollowBed bare = Calls.bedsOf("city 60 2;bed 10 0 9");
        dues("28: no LODGERS", of(bare.look(0, 0), bare.look(0, 1), bare.ruled(0), bare.ruled(1)), -2, -2, 1, -1);
        HollowBed floor = Calls.bedsOf("city 60 1;bed 10 0 9;lodger 50 1 90;lodger 50 1 10");
        floor.note(0, 1, -1);
        dues("27: on none", of(floor.ruled(0), floor.ruled(1)), 1, -1);
    }

    private static void seed() {
        HollowBed x = new HollowBed();
        dues("29: what it was", of(x.seed(5), x.seed(MOST), x.seed(0)), 0, 5, MOST);
        dues("29: below 0", of(x.seed(-1), x.seed(LEAST), x.count(12)), -1, -1, 0);
    }

    /** From 0 on DRAWS are 0, 21468, 9988, 22117, 3498, 16927, 16045. */
    private static void mays() {
        HollowBed x = town();
        HollowBed y = town();
        y.turn(0);
        nights(y, 2);
        y.turn(0);
        nights(y, 1);
        dues("30: p 50, turned ahead of the first NIGHT and the third", of(x.mays(1, 3, 50, 0), x.mays(1, 3, 50, 1)), y.count(7), y.count(8));
        HollowBed z = town();
        z.turn(0);
        nights(z, 1);
        z.turn(1);
        nights(z, 1);
        dues("30: p 100, turned ahead of each NIGHT", of(x.mays(1, 2, 100, 0), x.mays(1, 2, 100, 1)), z.count(7), z.count(8));
        dues("30: times all together, each from now on, DRAWS going on", of(x.mays(3, 1, 50, 1), x.mays(2, 1, 100, 1)),
            2 * turnedThen(0, 8) + x.ahead(0, 1, 2) + x.ahead(1, 1, 2), turnedThen(0, 8) + turnedThen(1, 8));
        dues("30: FAR likewise", of(x.mays(3, 1, 50, 0), x.mays(2, 1, 100, 0)),
            2 * turnedThen(0, 7) + x.ahead(0, 1, 3), turnedThen(0, 7) + turnedThen(1, 7));
        dues("30: p 0", of(x.mays(10, 10, 0, 0), x.mays(1, 60, 0, 0)), 10 * x.ahead(0, 10, 3), x.ahead(0, 60, 3));
        dues("30: nothing changes", of(x.count(12), x.count(6), x.count(11)), 0, 0, 0);
        x.seed(12345);
        // The DRAW 21468 mod 100 is 68.
        dues("30: x from elsewhere", of(x.mays(1, 1, 68, 1), x.mays(1, 1, 69, 1)), x.ahead(0, 1, 2) + x.ahead(1, 1, 2), turnedThen(0, 8));
        HollowBed bare = Calls.bedsOf("city 9 1;lodger 5 1 9");
        dues("30: no BEDS", of(bare.mays(10, 60, 100, 0), bare.mays(10, 60, 100, 1)), 40, 0);
        dues("30: without", of(x.mays(0, 1, 0, 0), x.mays(11, 1, 0, 0), x.mays(1, 0, 0, 0), x.mays(1, 61, 0, 0), x.mays(1, 1, -1, 0),
            x.mays(1, 1, 101, 0), x.mays(1, 1, 0, 2), x.mays(1, 1, 0, -1), new HollowBed().mays(1, 1, 0, 0)),
            -1, -1, -1, -1, -1, -1, -1, -1, -1);
    }

    /** FAR (what 7) or HOLLOWS (8) of all, if a BED is turned and then a NIGHT comes. */
    private static int turnedThen(int bed, int what) {
        HollowBed x = town();
        x.turn(bed);
        x.night();
        return x.count(what);
    }

    private static void count() {
        HollowBed x = town();
        Calls.rule(x, "lie 1+bed");
        x.force(0);
        x.night();
        x.note(5, 1, 1);
        x.seed(3);
        x.feed(1, 2, 3, 4, 5);
        int[] got = new int[14];
        for (int i = 0; i < 14; i++) got[i] = x.count(i);
        // By the RULE LODGERS 0 and 1 lie on BED 1, LODGER 2 on BED 0: SHAPES 37, 36, 10; HOLLOWS 10 + 35, 60 - 10.
        dues("31: all", got, 2, 2, 2, 3, 1, 0, 1, 37 + 63 + 40, 45 + 50, 3, 1, 1, 3, 20);
        dues("31: others", of(x.count(-1), x.count(14), x.count(MOST), x.count(LEAST)), -1, -1, -1, -1);
    }

    private static void imageAndBack() {
        HollowBed x = town();
        Calls.rule(x, "lie 1+bed");
        nights(x, 2);
        x.note(1, 1, 1);
        x.seed(8);
        due("32: the NIGHT", x.image(2), 2);
        dues("32: without it", of(x.image(-1), x.image(4), x.image(MOST)), -1, -1, -1);
        Calls.rule(x, "lie 2");
        x.force(1);
        x.night();
        x.burn(0);
        x.seed(9);
        x.note(1, 1, 1);
        due("32: another", x.image(3), 3);
        Calls.city(x, "city 1 1");
        x.feed(0, 0, 0, 0, 0);
        dues("33: never made, or without it", of(x.back(0), x.back(1), x.back(-1), x.back(4), x.back(LEAST)), -1, -1, -1, -1, -1);
        due("33: nothing happens", x.count(2), 0);
        due("33: the NIGHT", x.back(2), 2);
        dues("33: as it was", of(x.count(5), x.count(6), x.count(10), x.count(11), x.count(12), x.bed(0, 0), x.lodger(2, 0)),
            -1, 2, 1, 2, 8, 36, 66);
        dues("33: these stay", of(x.count(4), x.count(13)), 2, 20);
        dues("33: UNDONE behind", of(x.undo(), x.bed(0, 0), x.undo(), x.bed(0, 0), x.undo()), 1, 20, 0, 10, -2);
        dues("33: the other", of(x.back(3), x.count(5), x.count(10), x.count(12), x.bed(0, 0), x.count(11)), 3, 1, 2, 9, 50, 4);
        dues("33: the first once more", of(x.back(2), x.count(11), x.bed(0, 0)), 2, 2, 36);
        x.end(0);
        dues("33: as the text told it", of(x.ruled(0), x.ruled(1)), 1, 0);
        x.night();
        dues("32: made anew", of(x.image(2), x.undo(), x.back(2), x.count(11)), 3, 2, 3, 3);
        HollowBed ring = town();
        nights(ring, 3);
        ring.image(0);
        nights(ring, 25);
        ring.back(0);
        dues("33: all that could be UNDONE", of(ring.undo(), ring.count(6), ring.undo(), ring.count(6), ring.undo(), ring.count(6)),
            2, 2, 1, 1, 0, 0);
        dues("33: as at first", of(ring.lodger(0, 0), ring.bed(1, 1), ring.lodger(2, 3), ring.count(9)), 30, 40, -1, 0);
    }
}
