/** Promises 1 to 33 with ==== III of the document, sentence by sentence: the edges of each call. */
public final class CallEdgeTest {
    private static final int MOST = Integer.MAX_VALUE;
    private static final String SIX = ";lodger 50 1 50".repeat(6);
    private static final Calls calls = new Calls();

    public static void main(String[] args) {
        newObject();
        feed();
        end();
        city();
        rule();
        force();
        bedAndLodger();
        nightTurnStuffBurnLead();
        undo();
        ahead();
        comes();
        rowNights();
        rowRoom();
        tonight();
        turned();
        lain();
        twins();
        settled();
        best();
        rests();
        rent();
        note();
        ruled();
        look();
        seed();
        mays();
        count();
        image();
        back();
        calls.close("CallEdgeTest");
    }

    private static void due(String what, int got, int want) {
        calls.due(what, got, want);
    }

    private static void dues(String what, int[] got, int... want) {
        calls.dues(what, got, want);
    }

    private static int[] of(int... answers) {
        return answers;
    }

    /** Puts a text behind what the TAPE holds, blanks behind it. */
    private static int feedText(HollowBed x, String twenty) {
        int[] five = new int[5];
        for (int i = 0; i < 20; i++) five[i / 4] = five[i / 4] << 8 | twenty.charAt(i);
        return x.feed(five[0], five[1], five[2], five[3], five[4]);
    }

    private static void newObject() {
        HollowBed x = new HollowBed();
        dues("1: no CITY", of(x.count(0), x.count(1), x.count(2), x.count(3), x.count(6), x.count(7), x.count(8), x.count(9)),
            0, 0, 0, 0, 0, 0, 0, 0);
        dues("1: no RULES", of(x.count(4), x.force(0)), 0, -2);
        dues("1: none IN FORCE", of(x.count(5), x.force(-1)), -1, -1);
        dues("1: no NOTES, no ACTS, x 0 at first, no TAPE", of(x.count(10), x.count(11), x.count(12), x.count(13), x.seed(0), x.end(0), x.end(1)),
            0, 0, 0, 0, 0, 0, -1);
        dues("1: no IMAGES", of(x.back(0), x.back(1), x.back(2), x.back(3)), -1, -1, -1, -1);
        HollowBed y = new HollowBed();
        Calls.city(x, "city 1 1;bed 1 1 1");
        due("1: each object by itself", y.count(2), 0);
    }

    private static void feed() {
        for (int place = 0; place < 20; place++) {
            HollowBed x = new HollowBed();
            feedText(x, " ".repeat(place) + "x" + " ".repeat(19 - place));
            due("2: of each number the highest first, byte " + place, x.rule(), -2 - (1 + 8 * place));
            feedText(x, " ".repeat(place) + (char) 255 + " ".repeat(19 - place));
            due("2: bytes above 127, byte " + place, x.rule(), -2 - (1 + 8 * place));
        }
        HollowBed x = new HollowBed();
        for (int i = 1; i <= 20; i++) due("2: how many it has", feedText(x, i == 1 ? "lie 1               " : " ".repeat(20)), 20 * i);
        due("2: more than 400: 420", feedText(x, "x".repeat(20)), -1);
        due("2: none comes", x.count(13), 400);
        x.end(381);
        due("2: more than 400: 401", feedText(x, "x".repeat(20)), -1);
        due("2: none comes, not even 19", x.count(13), 381);
        x.end(380);
        due("2: 400", feedText(x, " ".repeat(20)), 400);
        due("2: what came stands, what was refused does not", x.rule(), 0);
        due("2: behind the TAPE, from 0 again", feedText(x, " ".repeat(20)), 20);
    }

    private static void end() {
        HollowBed x = new HollowBed();
        dues("3: of an empty TAPE", of(x.end(0), x.end(1), x.end(-1), x.end(MOST), x.end(Integer.MIN_VALUE), x.count(13)), 0, -1, -1, -1, -1, 0);
        feedText(x, "lie 1+++++++++++++++");
        dues("3: as many as it has", of(x.end(20), x.count(13)), 20, 20);
        dues("3: not so many", of(x.end(21), x.count(13)), -1, 20);
        dues("3: below 0", of(x.end(-1), x.count(13)), -1, 20);
        dues("3: one less", of(x.end(19), x.end(20), x.count(13)), 19, -1, 19);
        x.end(6);
        due("3: the next come behind the first n", feedText(x, "2;lie 3             "), 26);
        due("3: its first n bytes alone", x.rule(), 0);
        feedText(x, "lie 1               ");
        dues("3: none is left", of(x.end(0), x.rule()), 0, -3);
    }

    private static void city() {
        HollowBed x = Calls.bedsOf("city 9 2;bed 10 20 3;lodger 30 4 50", "lie 1");
        x.seed(77);
        x.night();
        x.turn(0);
        x.note(0, 0, 0);
        x.image(1);
        int[] seen = Calls.view(x);
        due("4: -2 - its FAULT", Calls.city(x, "city 9 2;bed 10 20 3;bed 10 20 0"), -2 - (1 + 8 * 31 + 1));
        dues("4: and all stays", Calls.view(x), seen);
        due("4: what could be UNDONE, too", x.undo(), 1);
        due("4: the TAPE is empty behind a FAULT", x.count(13), 0);
        due("4: an empty TAPE has a FAULT", x.city(), -3);
        due("4: how many BEDS, none", Calls.city(x, "city 9 2"), 0);
        dues("4: no NOTES, nothing to be UNDONE", of(x.count(10), x.count(11), x.undo()), 0, 0, -2);
        dues("4: the RULE IN FORCE and x stay", of(x.count(4), x.count(5), x.count(12)), 1, 0, 77);
        due("4: the TAPE is empty then", x.count(13), 0);
        due("4: an IMAGE stays", x.back(1), 1);
        due("4: how many BEDS, five", Calls.city(x, "city 9 2" + ";bed 1 1 1".repeat(5)), 5);
        due("4: no LODGERS of the one there was", x.lodger(0, 0), -2);
        due("4: in place of the one there was", Calls.city(x, "city 9 2;bed 5 6 7"), 1);
        dues("4: one BED of five", of(x.bed(0, 0), x.bed(1, 0), x.bed(4, 0), x.count(8)), 5, -1, -1, 5);
    }

    private static void rule() {
        HollowBed x = Calls.bedsOf("city 9 1;bed 1 1 1;bed 2 2 2;lodger 9 9 9");
        due("5: an empty TAPE has a FAULT", x.rule(), -3);
        due("5: its number, the first", Calls.rule(x, "lie 1"), 0);
        due("5: FAULT", Calls.rule(x, "lie 1 if 2=bed;lie"), -2 - (1 + 8 * 18));
        dues("5: no RULE by a FAULT, the TAPE is empty then", of(x.count(4), x.count(13), x.force(1)), 1, 0, -2);
        for (int i = 1; i < 6; i++) due("5: its number " + i, Calls.rule(x, "lie 1+bed"), i);
        due("5: none IN FORCE by this", x.count(5), -1);
        dues("5: there are 6, TAPE empty", of(x.rule(), x.count(4)), -1, 6);
        Calls.tape(x, "lie 1");
        dues("5: there are 6, and nothing happens", of(x.rule(), x.count(4), x.count(13)), -1, 6, 5);
        Calls.tape(x, "lie");
        dues("5: there are 6, whatever the TAPE holds", of(x.rule(), x.count(13), x.end(3)), -1, 3, 3);
        Calls.tape(x, "city 9 1;bed 7 7 7");
        dues("5: the TAPE that stayed can be a CITY", of(x.rule(), x.city(), x.bed(0, 0)), -1, 1, 7);
        x.force(5);
        Calls.city(x, "city 9 1;bed 1 1 1;bed 2 2 2;lodger 9 9 9");
        x.night();
        due("5: RULE 5 is the last that came", x.lodger(0, 3), 1);
        x.force(0);
        x.night();
        due("5: RULE 0 is the first that came", x.lodger(0, 3), 0);
    }

    private static void force() {
        HollowBed x = Calls.bedsOf("city 9 1;bed 1 1 1;lodger 9 9 9");
        dues("6: none such", of(x.force(0), x.count(5)), -2, -1);
        for (int i = 0; i < 6; i++) Calls.rule(x, "lie " + i);
        dues("6: which was", of(x.force(5), x.force(5), x.force(0), x.force(-1), x.force(-1)), -1, 5, 5, 0, -1);
        x.force(3);
        dues("6: none such, and nothing happens", of(x.force(6), x.force(-2), x.force(MOST), x.force(Integer.MIN_VALUE), x.count(5)), -2, -2, -2, -2, 3);
        due("6: no ACT", x.count(11), 0);
        x.force(0);
        due("6: by RULE 0 nobody lies", x.night(), 0);
        x.force(-1);
        due("6: NONE: none", x.night(), 1);
    }

    private static void bedAndLodger() {
        HollowBed x = Calls.bedsOf("city 9 6" + ";bed 1 2 3".repeat(4) + ";bed 4 5 6" + ";lodger 7 8 9".repeat(5) + ";lodger 10 9 99", "lie 1+bed");
        dues("7: BED 4", of(x.bed(4, 0), x.bed(4, 1), x.bed(4, 2), x.bed(4, 3)), 4, 5, 6, 0);
        dues("7: without these", of(x.bed(5, 0), x.bed(-1, 0), x.bed(4, 4), x.bed(4, -1), x.bed(5, 4)), -1, -1, -1, -1, -1);
        dues("8: LODGER 5", of(x.lodger(5, 0), x.lodger(5, 1), x.lodger(5, 2), x.lodger(5, 3), x.lodger(5, 4), x.lodger(5, 5)), 10, 9, 99, -1, 0, 89);
        dues("8: without these", of(x.lodger(6, 0), x.lodger(-1, 0), x.lodger(5, 6), x.lodger(5, -1), x.lodger(6, 6)), -2, -2, -2, -2, -2);
        x.night();
        dues("7: who lay on it, as bits", of(x.bed(3, 3), x.bed(4, 3)), 0, 63);
        dues("8: how many NIGHTS they lay on BEDS", of(x.lodger(5, 3), x.lodger(5, 4)), 4, 1);
        HollowBed below = Calls.bedsOf("city 9 1;lodger 0 1 99;lodger 99 1 0;lodger 5 1 5");
        dues("8: FAR either way", of(below.lodger(0, 5), below.lodger(1, 5), below.lodger(2, 5)), 99, 99, 0);
    }

    private static void nightTurnStuffBurnLead() {
        HollowBed none = new HollowBed();
        dues("9 to 13: without a CITY", of(none.night(), none.turn(0), none.stuff(0, 5), none.burn(0), none.lead(0, 0), none.count(6), none.count(11)),
            -1, -1, -1, -1, -2, 0, 0);
        HollowBed x = Calls.bedsOf("city 9 6" + ";bed 1 2 3".repeat(5) + ";lodger 50 9 0".repeat(6));
        dues("9: how many lie on BEDS", of(x.night(), x.count(9)), 6, 6);
        dues("10: BED 4, HOLLOW then", of(x.turn(4), x.turn(5), x.turn(-1)), 2, -1, -1);
        dues("11: BED 4", of(x.stuff(4, 9), x.stuff(5, 9), x.stuff(-1, 9)), 3, -1, -1);
        dues("12: BED 4", of(x.burn(4), x.burn(5), x.burn(-1)), 2, -1, -1);
        dues("13: LODGER 5 and BED 4", of(x.lead(5, 4), x.lead(6, 4), x.lead(5, 5), x.lead(-1, 4), x.lead(5, -1), x.lodger(5, 3)), 0, -2, -2, -2, -2, 4);
        due("9 to 13: each an ACT", x.count(11), 5);
        x.lead(5, 0);
        due("13: how many NIGHTS stay", x.lodger(5, 4), 1);
    }

    private static void undo() {
        HollowBed x = new HollowBed();
        due("14: none can, without a CITY", x.undo(), -2);
        Calls.city(x, "city 2 1;bed 10 90 1;lodger 30 1 0");
        due("14: none can", x.undo(), -2);
        Calls.nights(x, 2);
        dues("14: the last ACT, a NIGHT of (3)", of(x.bed(0, 0), x.bed(0, 1), x.undo(), x.bed(0, 0), x.bed(0, 1)), 30, 70, 1, 30, 90);
        dues("14: how many more can be", of(x.undo(), x.undo(), x.count(11)), 0, -2, 0);
        dues("14: as at first", of(x.bed(0, 0), x.lodger(0, 0), x.lodger(0, 3), x.lodger(0, 4), x.count(6)), 10, 30, -1, 0, 0);
        x.turn(0);
        x.turn(9);
        x.night();
        x.stuff(0, 1);
        dues("14: what was refused is none", of(x.count(11), x.undo(), x.count(6)), 2, 1, 0);
        x.seed(5);
        Calls.rule(x, "lie 1");
        x.force(0);
        x.note(3, 0, 0);
        dues("14: RULES, the RULE IN FORCE, x and NOTES are no ACTS", of(x.undo(), x.count(4), x.count(5), x.count(12), x.count(10)), 0, 1, 0, 5, 1);
    }

    private static void ahead() {
        HollowBed x = Calls.bedsOf("city 60 1;bed 40 0 1;lodger 80 1 0", "lie 1 if night=99");
        dues("15: 0 NIGHTS", of(x.ahead(0, 0, 0), x.ahead(0, 0, 1), x.ahead(0, 0, 2), x.ahead(0, 0, 3)), 80, -1, 40, 80);
        // Carded on NIGHT 59 alone: HOLLOW 45 from NIGHT 60 on.
        dues("15: 60 and 59 NIGHTS", of(x.ahead(0, 59, 2), x.ahead(0, 60, 2)), 40, 45);
        dues("15: 100 NIGHTS", of(x.ahead(0, 100, 0), x.ahead(0, 100, 1), x.ahead(0, 100, 2), x.ahead(0, 100, 3)), 45, 0, 80, 45);
        dues("15: 99 NIGHTS", of(x.ahead(0, 99, 0), x.ahead(0, 99, 1), x.ahead(0, 99, 2), x.ahead(0, 99, 3)), 80, -1, 45, 80);
        dues("15: 101 NIGHTS, below 0", of(x.ahead(0, 101, 0), x.ahead(0, -1, 0), x.ahead(0, MOST, 3), x.ahead(0, Integer.MIN_VALUE, 3)), -2, -2, -2, -2);
        dues("15: of that number", of(x.ahead(1, 0, 0), x.ahead(-1, 0, 0), x.ahead(1, 0, 1), x.ahead(-1, 0, 1), x.ahead(1, 0, 2), x.ahead(-1, 0, 2)),
            -2, -2, -2, -2, -2, -2);
        dues("15: of no number", of(x.ahead(1, 0, 3), x.ahead(-1, 0, 3), x.ahead(MOST, 0, 3)), 80, 80, 80);
        dues("15: what", of(x.ahead(0, 0, -1), x.ahead(0, 0, 4)), -2, -2);
        HollowBed beds = Calls.bedsOf("city 60 1;bed 40 0 1;bed 41 0 1");
        dues("15: more BEDS than LODGERS", of(beds.ahead(0, 0, 0), beds.ahead(1, 0, 1), beds.ahead(1, 0, 2), beds.ahead(0, 100, 3)), -2, -2, 41, 0);
        HollowBed lodgers = Calls.bedsOf("city 60 1;lodger 40 1 0;lodger 41 1 0");
        dues("15: more LODGERS than BEDS", of(lodgers.ahead(1, 100, 0), lodgers.ahead(1, 100, 1), lodgers.ahead(1, 0, 2)), 41, -1, -2);
        HollowBed late = Calls.bedsOf("city 60 1;bed 40 0 1;lodger 80 1 0", "lie 1 if night>999");
        Calls.nights(late, 999);
        dues("15: beyond 999, too", of(late.count(6), late.ahead(0, 1, 1), late.ahead(0, 2, 1)), 999, -1, 0);
    }

    private static void comes() {
        String town = "city 60 1;bed 99 50 9;bed 0 50 9;lodger 50 1 0";
        HollowBed x = Calls.bedsOf(town, "lie 1 if bed=0 and night=3 or bed=1 and night=5");
        dues("16: this one the first", of(x.comes(0, 50)), 0);
        dues("16: SHAPE 0 to 99", of(x.comes(0, 99), x.comes(0, 0), x.comes(0, 100), x.comes(0, -1)), 4, 6, -1, -1);
        dues("16: at none of these", of(x.comes(0, 98), x.comes(0, 1)), -2, -2);
        dues("16: without these", of(x.comes(1, 50), x.comes(-1, 50), x.comes(1, 100), new HollowBed().comes(0, 0)), -1, -1, -1, -1);
        Calls.nights(x, 4);
        dues("16: the NIGHT, not how many on", of(x.comes(0, 99), x.comes(0, 0)), 4, 6);
        due("16: gone by", x.comes(0, 50), -2);
        String still = "city 60 1;bed 50 50 9;lodger 0 1 0";
        due("16: of 200, the last", Calls.bedsOf(still, "lie 1 if night=198").comes(0, 50), 199);
        due("16: of 200, beyond", Calls.bedsOf(still, "lie 1 if night=199").comes(0, 50), -2);
        HollowBed last = Calls.bedsOf(still, "lie 1 if night=208");
        Calls.nights(last, 10);
        due("16: of 200 from NIGHT 10 on, the last", last.comes(0, 50), 209);
        HollowBed beyond = Calls.bedsOf(still, "lie 1 if night=209");
        Calls.nights(beyond, 10);
        due("16: of 200 from NIGHT 10 on, beyond", beyond.comes(0, 50), -2);
    }

    private static void rowNights() {
        HollowBed x = Calls.bedsOf("city 60 1;bed 64 64 9;lodger 0 2 64", "lie 0");
        dues("17: 1 NIGHT", of(x.row(0, 1, 0), x.row(0, 1, 1), x.row(0, 1, 2), x.row(0, 1, 3), x.row(0, 1, 4)), 32, 0, -2, -2, -2);
        dues("17: there is no such NIGHT", of(x.row(0, 2, 2), x.row(0, 2, 3), x.row(0, 2, 4), x.row(0, 3, 3), x.row(0, 3, 4)), 0, -2, -2, 0, -2);
        dues("17: n 1 to 4", of(x.row(0, 0, 0), x.row(0, 5, 0), x.row(0, -1, 0), x.row(0, MOST, 0)), -3, -3, -3, -3);
        dues("17: what 0 to 4", of(x.row(0, 4, -1), x.row(0, 4, 5), x.row(0, 1, 5), x.row(0, 1, MOST)), -3, -3, -3, -3);
        dues("17: that LODGER", of(x.row(1, 1, 0), x.row(-1, 1, 0), x.row(1, 1, 4), new HollowBed().row(0, 1, 0), new HollowBed().row(0, 1, 2)),
            -3, -3, -3, -3, -3);
        // HOLLOWS as the NIGHTS begin are 64, 57, 55, 54; SHAPES behind them 32, 44, 49, 51.
        dues("17: 4 NIGHTS", of(x.row(0, 4, 0), x.row(0, 4, 1), x.row(0, 4, 2), x.row(0, 4, 3), x.row(0, 4, 4)), 13, 0, 0, 0, 0);
        HollowBed bare = Calls.bedsOf("city 60 1;lodger 10 2 64");
        dues("17: no BEDS", of(bare.row(0, 4, 0), bare.row(0, 4, 1), bare.row(0, 4, 4)), 54, -1, -1);
    }

    private static void rowRoom() {
        HollowBed even = Calls.bedsOf("city 60 1;bed 50 0 9;bed 50 0 9;lodger 50 1 50");
        dues("17: none ahead of BED 0", of(even.row(0, 2, 0), even.row(0, 2, 1), even.row(0, 2, 2)), 0, -1, -1);
        HollowBed two = Calls.bedsOf("city 60 1;bed 50 0 9;bed 50 0 9;lodger 0 1 50");
        dues("17: the first row", of(two.row(0, 2, 0), two.row(0, 2, 1), two.row(0, 2, 2)), 0, -1, 0);
        String full = "city 60 1;bed 50 0 9;bed 10 0 9;lodger 0 9 0;lodger 0 1 50";
        HollowBed ahead = Calls.bedsOf(full, "lie 2-bed");
        dues("17: no room at their turn", of(ahead.row(1, 1, 0), ahead.row(1, 1, 1)), 40, 1);
        HollowBed room = Calls.bedsOf(full.replace("60 1", "60 2"), "lie 2-bed");
        dues("17: room for two", of(room.row(1, 1, 0), room.row(1, 1, 1)), 0, 0);
        // LODGER 1, behind them, is by the RULE on BED 0 where there is room, and pulls it down; on BED 1 they do no harm.
        HollowBed others = Calls.bedsOf("city 60 1;bed 90 0 1;bed 20 0 9;lodger 0 2 45;lodger 0 9 0", "lie 2-bed");
        dues("17: others by the RULE, at their turn", of(others.row(0, 1, 0), others.row(0, 1, 1)), 0, 0);
        HollowBed behind = Calls.bedsOf("city 60 1;bed 80 0 1;lodger 0 1 80;lodger 0 9 0", "lie 1 if lodger=1");
        dues("17: behind these, not ahead", of(behind.row(0, 2, 0), behind.row(0, 2, 1), behind.row(0, 2, 2)), 0, 0, -1);
    }

    private static void tonight() {
        HollowBed six = Calls.bedsOf("city 60 2;bed 99 0 9;bed 99 0 9" + ";lodger 0 1 99".repeat(6));
        int[] all = new int[7];
        for (int what = -1; what <= 5; what++) all[what + 1] = six.tonight(what);
        dues("18: at most ROOM on one BED; the first row, none ahead of BED 0", all, 198, -1, -1, 0, 0, 1, 1);
        dues("18: others", of(six.tonight(-2), six.tonight(6), six.tonight(MOST), six.tonight(Integer.MIN_VALUE)), -3, -3, -3, -3);
        HollowBed one = Calls.bedsOf("city 60 1;bed 99 0 9;lodger 0 1 99");
        dues("18: there is none such", of(one.tonight(-1), one.tonight(0), one.tonight(1), one.tonight(5), one.tonight(6)), 0, 0, -2, -2, -3);
        HollowBed bare = Calls.bedsOf("city 60 1;lodger 0 1 99;lodger 9 1 99");
        dues("18: no BEDS", of(bare.tonight(-1), bare.tonight(0), bare.tonight(1), bare.tonight(2)), 189, -1, -1, -2);
        HollowBed nobody = Calls.bedsOf("city 60 1;bed 5 5 5");
        dues("18: no LODGERS", of(nobody.tonight(-1), nobody.tonight(0)), 0, -2);
        dues("18: without a CITY", of(new HollowBed().tonight(-1), new HollowBed().tonight(0), new HollowBed().tonight(6)), -3, -3, -3);
        HollowBed first = Calls.bedsOf("city 60 1;bed 80 0 9;bed 90 0 9;lodger 0 1 85;lodger 0 1 85");
        dues("18: of LODGER 0 first", of(first.tonight(-1), first.tonight(0), first.tonight(1)), 10, 0, 1);
        HollowBed five = Calls.bedsOf("city 60 1;bed 0 0 9;bed 20 0 9;bed 40 0 9;bed 60 0 9;bed 80 0 9;"
            + "lodger 99 1 80;lodger 99 1 60;lodger 99 1 40;lodger 99 1 20;lodger 99 1 0;lodger 99 1 99");
        for (int what = -1; what <= 5; what++) all[what + 1] = five.tonight(what);
        dues("18: five BEDS, six LODGERS", all, 0, 4, 3, 2, 1, 0, -1);
        HollowBed near = Calls.bedsOf("city 60 1;bed 49 0 9;lodger 50 1 49");
        dues("18: less by 1", of(near.tonight(-1), near.tonight(0)), 0, 0);
        HollowBed ruled = Calls.bedsOf("city 60 1;bed 80 0 9;lodger 0 1 80", "lie 0");
        dues("18: whatever the RULE says", of(ruled.tonight(-1), ruled.tonight(0)), 0, 0);
        HollowBed may = Calls.bedsOf("city 1 1;bed 80 0 9;lodger 0 1 80");
        dues("18: (3), too, moves no SHAPE", of(may.tonight(-1), may.tonight(0)), 0, 0);
    }

    private static void turned() {
        HollowBed x = Calls.bedsOf("city 60 1;bed 0 80 9;bed 0 80 9;lodger 0 1 80", "lie 1 if bed=1 and night=59");
        dues("19: 59 NIGHTS, none", of(x.turned(59, 0), x.turned(59, 1)), -1, 80);
        dues("19: 60 NIGHTS", of(x.turned(60, 0), x.turned(60, 1)), 1, 0);
        dues("19: n 1 to 60", of(x.turned(0, 0), x.turned(61, 0), x.turned(-1, 1), x.turned(MOST, 1)), -2, -2, -2, -2);
        dues("19: what 0, 1", of(x.turned(1, -1), x.turned(1, 2), x.turned(60, MOST)), -2, -2, -2);
        due("19: without a CITY", new HollowBed().turned(1, 0), -2);
        HollowBed even = Calls.bedsOf("city 60 1;bed 80 80 9;bed 0 80 9;lodger 0 1 80", "lie 2-bed");
        dues("19: of several none", of(even.turned(1, 0), even.turned(1, 1)), -1, 0);
        HollowBed least = Calls.bedsOf("city 60 1;bed 9 9 9;bed 0 80 9;bed 0 80 9;lodger 0 1 80;lodger 0 1 80", "lie 1 if bed=lodger+1");
        dues("19: then the least", of(least.turned(1, 0), least.turned(1, 1)), 1, 80);
        HollowBed bare = Calls.bedsOf("city 60 1;lodger 0 1 80");
        dues("19: no BEDS", of(bare.turned(60, 0), bare.turned(60, 1)), -1, 80);
        HollowBed nobody = Calls.bedsOf("city 60 1;bed 0 80 9");
        dues("19: no LODGERS", of(nobody.turned(60, 0), nobody.turned(60, 1)), -1, 0);
        HollowBed last = Calls.bedsOf("city 60 1" + ";bed 0 80 9".repeat(5) + ";lodger 0 1 80", "lie 1+bed");
        due("19: BED 4", last.turned(1, 0), 4);
    }

    private static void lain() {
        String many = ";bed 50 0 1" + SIX;
        int[] sets = new int[6];
        for (int room = 1; room <= 6; room++) sets[room - 1] = Calls.bedsOf("city 60 " + room + many).lain(0, 50, 0);
        dues("20: ROOM of them at most, nobody too", sets, 7, 22, 42, 57, 63, 64);
        HollowBed all = Calls.bedsOf("city 60 6;bed 0 0 1" + ";lodger 0 1 1".repeat(5) + ";lodger 6 1 1");
        // The mean of those with LODGER 5 is 6 / how many; 1 is of 4, 5 and 6.
        dues("20: all of them", of(all.lain(0, 1, 0), all.lain(0, 1, 1), all.lain(0, 1, 2)), 16, 32 + 7, 32);
        dues("20: HOLLOW 0, nobody and those without LODGER 5", of(all.lain(0, 0, 0), all.lain(0, 0, 1), all.lain(0, 0, 2)), 32, 0, 0);
        dues("20: LODGERS that are in all", of(all.lain(0, 6, 0), all.lain(0, 6, 1), all.lain(0, 6, 2)), 1, 32, 32);
        dues("20: there is none", of(all.lain(0, 99, 0), all.lain(0, 99, 1), all.lain(0, 99, 2)), 0, -2, 0);
        dues("20: HOLLOW 0 to 99", of(all.lain(0, -1, 0), all.lain(0, 100, 0), all.lain(0, MOST, 1)), -3, -3, -3);
        dues("20: that BED", of(all.lain(1, 0, 0), all.lain(-1, 0, 0), new HollowBed().lain(0, 0, 0)), -3, -3, -3);
        dues("20: what 0 to 2", of(all.lain(0, 0, -1), all.lain(0, 0, 3)), -3, -3);
        HollowBed top = Calls.bedsOf("city 1 1;bed 0 0 1;lodger 99 1 1");
        dues("20: HOLLOW 99, behind (2), not (3)", of(top.lain(0, 99, 0), top.lain(0, 99, 1), top.lain(0, 74, 0)), 1, 1, 0);
        HollowBed bare = Calls.bedsOf("city 1 1;bed 5 0 1");
        dues("20: no LODGERS, nobody alone", of(bare.lain(0, 5, 0), bare.lain(0, 5, 1), bare.lain(0, 5, 2), bare.lain(0, 6, 1)), 1, 0, 0, -2);
        HollowBed zero = Calls.bedsOf("city 60 2;bed 9 0 1;lodger 60 1 1;lodger 61 1 1;lodger 0 1 1");
        // 60 is of LODGER 0 alone, and of 0 and 1.
        dues("20: LODGER 0 is in all", of(zero.lain(0, 60, 0), zero.lain(0, 60, 1), zero.lain(0, 60, 2)), 2, 1, 1);
        HollowBed one = Calls.bedsOf("city 1 1;bed 5 0 9;lodger 5 1 1");
        dues("20: both nobody and one", of(one.lain(0, 5, 0), one.lain(0, 5, 1), one.lain(0, 5, 2)), 2, 0, 0);
        HollowBed ruled = Calls.bedsOf("city 9 1;bed 5 0 1;lodger 9 1 1", "lie 0");
        due("20: whatever the RULE says", ruled.lain(0, 9, 0), 1);
    }

    private static void twins() {
        HollowBed all = Calls.bedsOf("city 60 1" + SIX);
        dues("21: all alike", of(all.twins(0, 0), all.twins(0, 1), all.twins(0, 2)), 15, 0, 1);
        HollowBed last = Calls.bedsOf("city 60 1;lodger 1 1 1;lodger 2 1 1;lodger 3 1 1;lodger 4 1 1;lodger 5 1 1;lodger 5 1 1");
        dues("21: the last two", of(last.twins(0, 0), last.twins(0, 1), last.twins(0, 2)), 1, 4, 5);
        HollowBed first = Calls.bedsOf("city 60 1;lodger 1 1 1;lodger 2 1 1;lodger 2 1 1;lodger 1 1 1");
        dues("21: the less number, then the other", of(first.twins(0, 0), first.twins(0, 1), first.twins(0, 2)), 2, 0, 3);
        HollowBed x = Calls.bedsOf("city 60 1;bed 7 7 9;lodger 50 1 1;lodger 50 1 1", "lie 1 if lodger=1 and night=99");
        dues("21: 99 NIGHTS", of(x.twins(99, 0), x.twins(99, 1), x.twins(99, 2)), 1, 0, 1);
        dues("21: 100 NIGHTS, there are none", of(x.twins(100, 0), x.twins(100, 1), x.twins(100, 2)), 0, -2, -2);
        dues("21: n 0 to 100", of(x.twins(-1, 0), x.twins(101, 0), x.twins(MOST, 2)), -1, -1, -1);
        dues("21: what 0 to 2", of(x.twins(0, -1), x.twins(0, 3)), -1, -1);
        due("21: without a CITY", new HollowBed().twins(0, 0), -1);
        HollowBed one = Calls.bedsOf("city 60 1;lodger 50 1 1");
        dues("21: one LODGER is no two", of(one.twins(0, 0), one.twins(0, 1)), 0, -2);
        HollowBed zero = Calls.bedsOf("city 60 1;lodger 0 1 1");
        due("21: one LODGER of SHAPE 0 is no two", zero.twins(0, 0), 0);
        Calls.city(last, "city 60 1;lodger 1 1 1;lodger 3 1 1");
        due("21: LODGERS of the CITY ahead are none", last.twins(0, 0), 0);
        HollowBed nobody = Calls.bedsOf("city 60 1");
        dues("21: no LODGERS", of(nobody.twins(100, 0), nobody.twins(100, 2)), 0, -2);
    }

    /** SHAPES at the begin of NIGHT t + 1 are the bits of t, 49 or 50; at NIGHT 0 those of a number. */
    private static HollowBed counting(int number) {
        StringBuilder town = new StringBuilder("city 60 6;bed 49 49 9;bed 50 50 9");
        StringBuilder rule = new StringBuilder();
        for (int i = 0; i < 6; i++) {
            town.append(";lodger ").append(49 + (number >> i & 1)).append(" 1 0");
            rule.append(i == 0 ? "" : ";").append("lie 1 if lodger=").append(i).append(" and night/").append(1 << i).append("%2=bed");
        }
        return Calls.bedsOf(town.toString(), rule.toString());
    }

    private static void settled() {
        HollowBed x = counting(59);
        dues("22: 60 NIGHTS from now at most", of(x.settled(0), x.settled(1)), 0, 60);
        HollowBed beyond = counting(60);
        dues("22: not 61", of(beyond.settled(0), beyond.settled(1)), -2, -2);
        HollowBed within = counting(58);
        dues("22: how much later", of(within.settled(0), within.settled(1)), 0, 59);
        HollowBed later = counting(63);
        Calls.nights(later, 4);
        dues("22: from NIGHT 4 on, none", of(later.settled(0), later.settled(1)), -2, -2);
        dues("22: others, or without a CITY", of(x.settled(-1), x.settled(2), x.settled(MOST), new HollowBed().settled(0)), -1, -1, -1, -1);
        HollowBed under = Calls.bedsOf("city 1 1;bed 50 0 1");
        dues("22: SHAPES and HOLLOWS alone, not UNDER", of(under.settled(0), under.settled(1)), 0, 1);
        HollowBed hollow = Calls.bedsOf("city 1 1;bed 0 50 1");
        // 0, 25, 37, 43, 46, 48, 49, 49
        dues("22: HOLLOWS, too", of(hollow.settled(0), hollow.settled(1)), 6, 1);
        HollowBed shape = Calls.bedsOf("city 60 1;bed 49 0 1;lodger 49 1 0;lodger 0 1 0", "lie 1 if lodger=1 and night=3");
        dues("22: at once, though it moves later", of(shape.settled(0), shape.settled(1)), 0, 1);
        HollowBed nothing = Calls.bedsOf("city 60 1");
        Calls.nights(nothing, 7);
        dues("22: neither BEDS nor LODGERS", of(nothing.settled(0), nothing.settled(1)), 7, 1);
    }

    private static void best() {
        // To be carded on NIGHT 59 and not ahead of it: LODGER 1 lies there on it, LODGER 0 on the next one.
        HollowBed x = Calls.bedsOf("city 60 2;bed 0 0 9;lodger 0 1 25;lodger 0 1 0", "lie 1 if lodger=0 and night=60;lie 1 if lodger=1 and night=59");
        x.night();
        dues("23: CARD 60, 60 NIGHTS", of(x.best(60, 0), x.best(60, 1)), 60, 0);
        dues("23: 59 NIGHTS, each other CARD has come by then", of(x.best(59, 0), x.best(59, 1)), 60, 25);
        dues("23: 58 NIGHTS, all alike", of(x.best(58, 0), x.best(58, 1)), 1, 25);
        dues("23: n 1 to 60", of(x.best(0, 0), x.best(61, 0), x.best(-1, 1), x.best(MOST, 1)), -1, -1, -1, -1);
        dues("23: what 0, 1", of(x.best(1, -1), x.best(1, 2)), -1, -1);
        due("23: without a CITY", new HollowBed().best(1, 0), -1);
        bestFromLaterOn();
        HollowBed told = Calls.bedsOf("city 7 1;bed 0 0 9;lodger 0 1 0");
        dues("23: in place of what it is, 1 NIGHT", of(told.best(1, 0), told.best(1, 1), told.count(0)), 1, 0, 7);
        dues("23: not carded in 9 NIGHTS", of(told.best(9, 0), told.best(9, 1)), 9, 0);
        HollowBed nobody = Calls.bedsOf("city 7 1;bed 0 0 9");
        dues("23: no LODGERS", of(nobody.best(60, 0), nobody.best(60, 1)), 1, 0);
        HollowBed bare = Calls.bedsOf("city 7 1;lodger 9 1 0");
        dues("23: no BEDS", of(bare.best(60, 0), bare.best(60, 1)), 1, 9);
    }

    private static void bestFromLaterOn() {
        // 59 alone cards on NIGHT 58 and on none of 55 to 57; LODGER 1 lies there on it, LODGER 0 on the next one.
        HollowBed x = Calls.bedsOf("city 60 2;bed 0 0 9;lodger 0 1 25;lodger 0 1 0", "lie 1 if lodger=0 and night=59;lie 1 if lodger=1 and night=58");
        Calls.nights(x, 55);
        dues("23: CARD 59 from NIGHT 55 on", of(x.best(5, 0), x.best(5, 1)), 59, 0);
        // Of NIGHTS 59 and 60 the first is carded by all that part 60: 7 is the least that does not.
        HollowBed y = Calls.bedsOf("city 60 2;bed 0 0 9;lodger 0 1 0", "lie 1");
        Calls.nights(y, 59);
        dues("23: CARD 7 from NIGHT 59 on", of(y.best(2, 0), y.best(2, 1)), 7, 0);
    }

    private static void rests() {
        HollowBed all = Calls.bedsOf("city 60 2" + ";bed 50 50 9".repeat(5) + SIX);
        dues("24: neither would have less, all 25", of(all.rests(4, 5, 20, 0), all.rests(4, 5, 20, 1), all.rests(4, 5, 20, 2)), 25, 0, 0);
        HollowBed last = Calls.bedsOf("city 60 2" + ";bed 0 0 9".repeat(4) + ";bed 90 0 9;lodger 50 1 90;lodger 50 1 90");
        dues("24: BED 4", of(last.rests(0, 1, 1, 0), last.rests(0, 1, 1, 1), last.rests(0, 1, 1, 2)), 1, 4, 4);
        HollowBed x = Calls.bedsOf("city 60 1;bed 10 0 9;bed 90 0 9;lodger 50 1 10;lodger 50 1 10");
        // LODGER 1 on BED 0 has no room there and stays 40 FAR; on BED 1 they would have 80.
        dues("24: no room at their turn (else on none)", of(x.rests(0, 1, 1, 0), x.rests(0, 1, 1, 1), x.rests(0, 1, 1, 2)), 1, 0, 0);
        dues("24: at their turn, whoever is named first", of(x.rests(1, 0, 1, 0), x.rests(1, 0, 1, 1), x.rests(1, 0, 1, 2)), 1, 0, 0);
        dues("24: n 1 to 20", of(x.rests(0, 1, 0, 0), x.rests(0, 1, 21, 0), x.rests(0, 1, -1, 0), x.rests(0, 1, MOST, 0)), -1, -1, -1, -1);
        dues("24: what 0 to 2", of(x.rests(0, 1, 1, -1), x.rests(0, 1, 1, 3)), -1, -1);
        dues("24: unlike", of(x.rests(0, 0, 1, 0), x.rests(1, 1, 1, 0)), -1, -1);
        dues("24: two LODGERS", of(x.rests(0, 2, 1, 0), x.rests(2, 0, 1, 0), x.rests(-1, 0, 1, 0), x.rests(0, -1, 1, 0), new HollowBed().rests(0, 1, 1, 0)),
            -1, -1, -1, -1, -1);
        HollowBed none = Calls.bedsOf("city 60 1;lodger 50 1 10;lodger 50 1 10");
        dues("24: no BEDS, there is none", of(none.rests(0, 1, 20, 0), none.rests(0, 1, 20, 1), none.rests(0, 1, 20, 2)), 0, -2, -2);
        HollowBed order = Calls.bedsOf("city 60 2;bed 50 0 9;bed 50 0 9;bed 50 0 9;lodger 50 1 0;lodger 90 1 50", "lie 0");
        dues("24: by the first one, then the second one", of(order.rests(0, 1, 1, 0), order.rests(0, 1, 1, 1), order.rests(0, 1, 1, 2)), 9, 0, 0);
        matching();
        restsInARow();
    }

    /** Nobody is held to a BED by a question that was asked ahead. */
    private static void restsInARow() {
        String town = "city 60 1;bed 10 0 9;bed 90 0 9;lodger 50 1 10;lodger 50 1 10;lodger 50 1 10";
        HollowBed x = Calls.bedsOf(town, "lie 1 if lodger=0 and bed=1");
        HollowBed y = Calls.bedsOf(town, "lie 1 if lodger=0 and bed=1");
        x.rests(0, 1, 1, 0);
        x.row(0, 1, 0);
        // LODGER 0 lies on BED 1 by the RULE: LODGERS 1 and 2 have room on BED 0 alone.
        dues("24: asked behind another two", of(x.rests(1, 2, 1, 0), x.rests(1, 2, 1, 1), x.rests(1, 2, 1, 2)), 2, 0, 0);
        dues("24: asked at once", of(y.rests(1, 2, 1, 0), y.rests(1, 2, 1, 1), y.rests(1, 2, 1, 2)), 2, 0, 0);
        y.rests(0, 2, 1, 0);
        dues("17: asked behind RESTS", of(y.row(1, 1, 0), y.row(1, 1, 1)), 0, 0);
    }

    /** LODGER 0 wants to lie where LODGER 1 lies, who wants to be alone: no two BEDS rest. */
    private static void matching() {
        HollowBed x = Calls.bedsOf("city 60 2;bed 50 0 1;bed 50 0 1;lodger 50 1 80;lodger 80 1 50");
        // On one BED for 2 NIGHTS: HOLLOW 50, then 65, so SHAPES are 50 and then 65: FAR 15 and 15.
        // Apart: LODGER 0 stays at 50 (FAR 30), LODGER 1 comes to 50, then to 80 (FAR 30).
        dues("24: on one BED both have less", of(x.rests(0, 1, 2, 0), x.rests(0, 1, 2, 1), x.rests(0, 1, 2, 2)), 2, 0, 0);
        HollowBed y = Calls.bedsOf("city 60 2;bed 50 0 1;bed 50 0 1;lodger 50 1 80;lodger 80 1 80");
        // Now LODGER 1 has 15 on one BED, and 0 apart; LODGER 0 has 15 on one BED, and 30 apart.
        dues("24: there is none", of(y.rests(0, 1, 2, 0), y.rests(0, 1, 2, 1), y.rests(0, 1, 2, 2)), 0, -2, -2);
    }

    private static void rent() {
        HollowBed x = Calls.bedsOf("city 60 1;bed 50 0 9;lodger 50 1 0;lodger 50 1 0;lodger 50 1 0", "lie 1 if lodger=night%2");
        dues("25: nothing, if nobody did", of(x.rent(9999, 0), x.rent(9999, 1), x.rent(0, 0)), 0, 0, 0);
        x.night();
        dues("25: one alone", of(x.rent(9999, 0), x.rent(9999, 1), x.rent(9999, 2), x.rent(1, 0)), 9999, 0, 0, 1);
        x.night();
        dues("25: of several the least first", of(x.rent(1, 0), x.rent(1, 1), x.rent(1, 2)), 1, 0, 0);
        dues("25: 9999", of(x.rent(9999, 0), x.rent(9999, 1), x.rent(9999, 2)), 5000, 4999, 0);
        dues("25: 0", of(x.rent(0, 0), x.rent(0, 1), x.rent(0, 2)), 0, 0, 0);
        x.night();
        dues("25: whose part lost most", of(x.rent(1, 0), x.rent(1, 1), x.rent(2, 0), x.rent(2, 1)), 1, 0, 1, 1);
        dues("25: nothing is left", of(x.rent(3, 0), x.rent(3, 1), x.rent(3, 2)), 2, 1, 0);
        dues("25: 0 to 9999", of(x.rent(-1, 0), x.rent(10000, 0), x.rent(MOST, 0), x.rent(Integer.MIN_VALUE, 0)), -1, -1, -1, -1);
        dues("25: that LODGER", of(x.rent(1, 3), x.rent(1, -1), new HollowBed().rent(0, 0)), -1, -1, -1);
        HollowBed led = Calls.bedsOf("city 60 1;bed 50 0 9;lodger 50 1 0");
        led.lead(0, 0);
        due("25: LED is not lain", led.rent(5, 0), 0);
        HollowBed long999 = Calls.bedsOf("city 60 6;bed 50 0 9" + SIX);
        Calls.nights(long999, 999);
        dues("25: 9999 among six, 999 NIGHTS each", of(long999.rent(9999, 0), long999.rent(9999, 2), long999.rent(9999, 3), long999.rent(9999, 5)),
            1667, 1667, 1666, 1666);
    }

    private static void note() {
        HollowBed x = Calls.bedsOf("city 60 1;bed 50 0 9;bed 51 0 9;lodger 50 1 0;lodger 50 1 0");
        dues("26: n 0 to 60", of(x.note(0, 0, 0), x.note(60, 0, 0), x.note(61, 0, 0), x.note(-2, 0, 0), x.note(MOST, 0, 0), x.count(10)), 1, 2, -2, -2, -2, 2);
        dues("26: that LODGER", of(x.note(0, 1, 0), x.note(0, 2, 0), x.note(0, -1, 0), x.count(10)), 3, -2, -2, 3);
        dues("26: that BED (bed NONE: on none)", of(x.note(0, 0, 1), x.note(0, 0, 2), x.note(0, 0, -1), x.note(0, 0, -2), x.count(10)), 4, -2, 5, -2, 5);
        dues("26: likewise ones", of(x.note(0, 0, -1), x.note(0, 0, -1), x.note(0, 0, -1), x.note(0, 0, -1)), 6, 7, 8, 9);
        dues("26: NOTES 0 to 9", of(x.note(1, 0, 0), x.note(1, 0, 0), x.count(10)), 10, -2, 10);
        dues("26: n NONE: there are none then", of(x.note(-1, 5, 5), x.count(10), x.note(-1, 0, 0), x.note(1, 0, 0)), 0, 0, 0, 1);
        HollowBed none = new HollowBed();
        dues("26: without a CITY", of(none.note(-1, 0, 0), none.note(0, 0, 0), none.note(0, 0, -1), none.count(10)), 0, -2, -2, 0);
    }

    private static void ruled() {
        HollowBed x = Calls.bedsOf("city 60 1;bed 50 0 9;bed 51 0 9;lodger 50 1 0");
        dues("27: without RULES, none alone", of(x.ruled(0), x.ruled(1)), 1, -1);
        for (int i = 0; i < 6; i++) Calls.rule(x, "lie 1 if bed=1 and night<61-" + i);
        dues("27: no NOTES, all six and none", of(x.ruled(0), x.ruled(1)), 7, -1);
        x.note(0, 0, 1);
        dues("27: none is not so", of(x.ruled(0), x.ruled(1)), 6, 0);
        x.note(60, 0, 1);
        dues("27: NIGHT 60", of(x.ruled(0), x.ruled(1)), 1, 0);
        x.note(-1, 0, 0);
        x.note(60, 0, -1);
        dues("27: NIGHT 60, on none", of(x.ruled(0), x.ruled(1)), 5, 1);
        x.note(55, 0, -1);
        dues("27: there is none such", of(x.ruled(0), x.ruled(1)), 0, -2);
        x.note(-1, 0, 0);
        x.note(56, 0, -1);
        dues("27: the last RULE alone", of(x.ruled(0), x.ruled(1)), 1, 5);
        x.note(-1, 0, 0);
        x.note(0, 0, 0);
        dues("27: none told as NONE", of(x.ruled(0), x.ruled(1)), 1, -1);
        x.lead(0, 1);
        Calls.nights(x, 2);
        dues("27: from the begin on, all as the text told it", of(x.ruled(0), x.ruled(1)), 1, -1);
        x.force(3);
        dues("27: whichever is IN FORCE", of(x.ruled(0), x.ruled(1)), 1, -1);
        dues("27: others, or without a CITY", of(x.ruled(-1), x.ruled(2), x.ruled(MOST), new HollowBed().ruled(0), new HollowBed().ruled(1)), -3, -3, -3, -3, -3);
        HollowBed turned = Calls.bedsOf("city 60 1;bed 10 90 9;lodger 10 1 0", "lie 20-hollow");
        turned.turn(0);
        turned.burn(0);
        turned.stuff(0, 1);
        turned.note(0, 0, 0);
        due("27: BEDS as the text told them", turned.ruled(0), 2);
        dues("27: a NOTE and its contrary", of(turned.note(0, 0, -1), turned.ruled(0), turned.ruled(1)), 2, 0, -2);
    }

    private static void look() {
        HollowBed x = Calls.bedsOf("city 60 2;bed 50 0 9;bed 51 0 9;lodger 50 1 0;lodger 50 1 0;lodger 50 1 0");
        dues("28: one alone, of several the least", of(x.look(0, 0), x.look(0, 1), x.look(60, 0), x.look(60, 1)), 0, 1, 0, 1);
        Calls.rule(x, "lie 1 if bed=0 and lodger<2;lie 1 if bed=1 and lodger=2 and night<60");
        // By none and by RULE 0 all lie alike but for LODGER 2 on NIGHT 60.
        dues("28: NIGHT 59, none parts them", of(x.look(59, 0), x.look(59, 1)), 0, 2);
        dues("28: NIGHT 60, LODGER 2 does", of(x.look(60, 0), x.look(60, 1)), 2, 1);
        dues("28: n 0 to 60", of(x.look(-1, 0), x.look(61, 0), x.look(MOST, 1)), -1, -1, -1);
        dues("28: what 0, 1", of(x.look(0, -1), x.look(0, 2)), -1, -1);
        due("28: without a CITY", new HollowBed().look(0, 0), -1);
        x.note(60, 2, -1);
        dues("28: by NOTES behind that NIGHT, too", of(x.look(0, 0), x.look(0, 1)), 0, 1);
        x.note(60, 2, 0);
        dues("28: no RULE is so", of(x.look(0, 0), x.look(0, 1), x.look(60, 0), x.look(61, 0)), -2, -2, -2, -1);
        HollowBed nobody = Calls.bedsOf("city 60 2;bed 50 0 9", "lie 1");
        dues("28: there are no LODGERS", of(nobody.look(0, 0), nobody.look(0, 1), nobody.look(0, 2)), -2, -2, -1);
        HollowBed bare = Calls.bedsOf("city 60 2;lodger 50 1 9", "lie 1");
        dues("28: no BEDS, all on none", of(bare.look(0, 0), bare.look(0, 1)), 0, 2);
        HollowBed parts = Calls.bedsOf("city 60 2;bed 1 1 9;bed 2 2 9;bed 3 3 9;lodger 50 1 9;lodger 50 1 9", "lie 1");
        Calls.rule(parts, "lie 1 if lodger=0 or bed=1");
        Calls.rule(parts, "lie 1 if lodger=0 and bed=1 or bed=2");
        HollowBed five = Calls.bedsOf("city 60 2" + ";bed 1 1 9".repeat(5) + ";lodger 50 1 9", "lie 1+bed");
        Calls.rule(five, "lie 2+bed");
        Calls.rule(five, "lie 0");
        dues("28: two on BED 4, one on BED 0, one on none", of(five.look(0, 0), five.look(0, 1)), 0, 2);
        Calls.rule(five, "lie 0");
        Calls.rule(five, "lie 0");
        dues("28: three on none", of(five.look(0, 0), five.look(0, 1)), 0, 3);
        // LODGER 0 lies on 0, 0, 0, 1; LODGER 1 on 0, 0, 1, 2.
        dues("28: the most alike are fewest", of(parts.look(0, 0), parts.look(0, 1)), 1, 2);
    }

    private static void seed() {
        HollowBed x = new HollowBed();
        dues("29: what it was", of(x.seed(MOST), x.seed(0), x.seed(1)), 0, MOST, 0);
        dues("29: NONE, and nothing happens, below 0", of(x.seed(-1), x.seed(Integer.MIN_VALUE), x.count(12)), -1, -1, 1);
    }

    private static void mays() {
        HollowBed x = Calls.bedsOf("city 60 1;bed 0 90 9;bed 10 80 9;lodger 5 1 0", "lie 0");
        // From 0 on DRAWS are 0, 21468 (BED 0), 9988, 22117 (BED 1).
        dues("30: p 0, a DRAW of 0", of(x.mays(1, 1, 0, 1), x.mays(10, 60, 0, 0)), 10, 50);
        dues("30: p 1, a DRAW of 0", of(x.mays(1, 1, 1, 1), x.mays(1, 1, 1, 0)), 100, 5);
        x.seed(MOST);
        // From 2147483647 on DRAWS are 15929 and 4409: 29 and BED 1.
        dues("30: x 2147483647, p 29 and 30", of(x.mays(1, 1, 29, 1), x.mays(1, 1, 30, 1)), 10, 80);
        // From 194 on DRAWS are 22599 and 21269: 99 and BED 1; 99 is below 100 alone.
        x.seed(194);
        dues("30: p 99 and 100", of(x.mays(1, 1, 99, 1), x.mays(1, 1, 100, 1)), 10, 80);
        due("30: x as it was", x.count(12), 194);
        dues("30: m 1 to 10", of(x.mays(0, 1, 0, 0), x.mays(11, 1, 0, 0), x.mays(-1, 1, 0, 0), x.mays(10, 1, 0, 0)), -1, -1, -1, 50);
        dues("30: n 1 to 60", of(x.mays(1, 0, 0, 0), x.mays(1, 61, 0, 0), x.mays(1, -1, 0, 0), x.mays(1, 60, 0, 0)), -1, -1, -1, 5);
        dues("30: p 0 to 100", of(x.mays(1, 1, -1, 0), x.mays(1, 1, 101, 0), x.mays(1, 1, MOST, 0), x.mays(1, 1, 100, 0)), -1, -1, -1, 5);
        dues("30: what 0, 1", of(x.mays(1, 1, 0, -1), x.mays(1, 1, 0, 2)), -1, -1);
        due("30: without a CITY", new HollowBed().mays(1, 1, 0, 0), -1);
        // Carded on NIGHT 59: 0 comes to 25, 10 to 30.
        dues("30: 60 NIGHTS, ten times", of(x.mays(1, 59, 0, 1), x.mays(1, 60, 0, 1), x.mays(10, 60, 0, 1)), 10, 55, 550);
        maysWithoutBeds();
    }

    private static void maysWithoutBeds() {
        HollowBed bare = Calls.bedsOf("city 60 1;lodger 5 1 0");
        dues("30: are there BEDS, none", of(bare.mays(10, 60, 100, 0), bare.mays(10, 60, 100, 1)), 50, 0);
        HollowBed nobody = Calls.bedsOf("city 60 1;bed 0 90 9");
        dues("30: one BED is always that one", of(nobody.mays(1, 1, 100, 1), nobody.mays(1, 2, 100, 1), nobody.mays(1, 3, 100, 1), nobody.mays(1, 1, 100, 0)),
            90, 0, 90, 0);
        HollowBed empty = Calls.bedsOf("city 60 1");
        dues("30: neither", of(empty.mays(10, 60, 100, 0), empty.mays(10, 60, 100, 1)), 0, 0);
    }

    private static void count() {
        HollowBed x = Calls.bedsOf("city 60 6" + ";bed 99 1 9".repeat(5) + ";lodger 0 9 99".repeat(6));
        dues("31: at their most", of(x.count(0), x.count(1), x.count(2), x.count(3), x.count(7), x.count(8)), 60, 6, 5, 6, 594, 495);
        dues("31: others", of(x.count(-1), x.count(14), x.count(MOST), x.count(Integer.MIN_VALUE)), -1, -1, -1, -1);
        x.night();
        due("31: how many NIGHTS anybody lay on BEDS, all together", x.count(9), 6);
        dues("31: the RULE IN FORCE (NONE)", of(x.count(5), x.count(4)), -1, 0);
    }

    private static void image() {
        HollowBed x = new HollowBed();
        dues("32: the NIGHT, without a CITY", of(x.image(0), x.image(3)), 0, 0);
        dues("32: IMAGES 0 to 3", of(x.image(-1), x.image(4), x.image(MOST), x.image(Integer.MIN_VALUE)), -1, -1, -1, -1);
        Calls.city(x, "city 60 1;bed 1 1 1");
        Calls.nights(x, 5);
        dues("32: the NIGHT", of(x.image(3), x.image(2)), 5, 5);
        x.night();
        dues("32: in place of the one there was", of(x.image(2), x.undo(), x.back(2), x.back(3), x.back(0), x.count(2)), 6, 5, 6, 5, 0, 0);
        due("32: no ACT", x.count(11), 0);
    }

    /** By none the LODGER lies on BED 0, by RULE 0 on BED 1 but on none on NIGHT 7. */
    private static void notesOfImages() {
        HollowBed x = Calls.bedsOf("city 60 1;bed 10 20 3;bed 10 20 3;lodger 30 4 50;lodger 30 4 50", "lie 1 if lodger=0 and bed=1 and [night<7 or night>7]");
        x.note(7, 0, -1);
        x.image(2);
        dues("33: NOTES as they were", of(x.ruled(0), x.ruled(1)), 1, 0);
        x.note(-1, 0, 0);
        x.note(7, 0, 0);
        x.image(3);
        dues("33: NOTES that came then", of(x.ruled(0), x.ruled(1)), 1, -1);
        dues("33: NOTES gone back to, where", of(x.back(2), x.count(10), x.ruled(0), x.ruled(1)), 0, 1, 1, 0);
        x.note(-1, 0, 0);
        x.note(6, 0, -1);
        dues("33: NOTES gone back to, which NIGHT", of(x.ruled(0), x.back(2), x.ruled(0), x.ruled(1)), 0, 0, 1, 0);
        x.note(-1, 0, 0);
        x.note(7, 1, -1);
        dues("33: NOTES gone back to, who", of(x.back(3), x.ruled(0), x.ruled(1)), 0, 1, -1);
    }

    private static void back() {
        HollowBed x = Calls.bedsOf("city 60 1;bed 10 20 3;lodger 30 4 50", "lie 1");
        dues("33: never made", of(x.back(0), x.back(1), x.back(2), x.back(3)), -1, -1, -1, -1);
        dues("33: without it", of(x.back(-1), x.back(4), x.back(MOST), x.back(Integer.MIN_VALUE)), -1, -1, -1, -1);
        x.turn(0);
        x.note(4, 0, 0);
        x.seed(6);
        int[] seen = Calls.view(x);
        x.image(0);
        due("33: the other was never made", x.back(1), -1);
        x.force(-1);
        x.seed(7);
        x.note(-1, 0, 0);
        Calls.nights(x, 25);
        Calls.city(x, "city 1 2;bed 1 1 1;bed 2 2 2");
        due("33: the NIGHT", x.back(0), 0);
        dues("33: it is as it was", Calls.view(x), seen);
        dues("33: what can be UNDONE, too", of(x.undo(), x.bed(0, 0), x.undo()), 0, 10, -2);
        dues("33: once more", of(x.back(0), x.bed(0, 0), x.count(11)), 0, 20, 1);
        Calls.rule(x, "lie 0");
        x.force(1);
        feedText(x, "city 9 1            ");
        x.back(0);
        dues("33: these stay: RULES and the TAPE", of(x.count(4), x.count(5), x.count(13), x.city()), 2, 0, 20, 0);
        due("33: IMAGES stay behind a CITY", x.back(0), 0);
        notesOfImages();
        HollowBed full = Calls.bedsOf("city 60 1;bed 10 20 3");
        for (int i = 0; i < 21; i++) full.turn(0);
        full.image(1);
        for (int i = 0; i < 21; i++) full.undo();
        full.stuff(0, 9);
        dues("33: 20 ACTS are kept", of(full.back(1), full.count(11), full.bed(0, 2)), 0, 20, 3);
        for (int i = 19; i >= 0; i--) due("33: 20 ACTS can be UNDONE", full.undo(), i);
        due("33: as behind the first of 21", full.bed(0, 0), 20);
    }
}
