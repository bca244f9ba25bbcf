/** ==== II of the document, sentence by sentence: the edges of a NIGHT and of ACTS. */
public final class NightEdgeTest {
    private static final Calls calls = new Calls();

    public static void main(String[] args) {
        roomOnBeds();
        sumOfRule();
        clausesOfRule();
        eachByHowAllIsThen();
        withoutRule();
        shapes();
        hollows();
        allAtOnce();
        cards();
        lastNight();
        turnAndStuff();
        burnAndLead();
        twentyActs();
        eachOfTwenty();
        calls.close("NightEdgeTest");
    }

    private static void dues(String what, int[] got, int... want) {
        calls.dues(what, got, want);
    }

    private static int[] of(int... answers) {
        return answers;
    }

    /** Where the first so many LODGERS lay on the NIGHT ahead. */
    private static int[] where(HollowBed x, int many) {
        int[] beds = new int[many];
        for (int i = 0; i < many; i++) beds[i] = x.lodger(i, 3);
        return beds;
    }

    private static void roomOnBeds() {
        String six = ";lodger 0 9 0".repeat(6);
        HollowBed one = Calls.bedsOf("city 9 1;bed 1 1 1;bed 2 2 2" + six, "lie 9-bed");
        calls.due("fewer than ROOM 1", one.night(), 2);
        dues("fewer than ROOM 1", where(one, 6), 0, 1, -1, -1, -1, -1);
        HollowBed two = Calls.bedsOf("city 9 2;bed 1 1 1;bed 2 2 2" + six, "lie 9-bed");
        calls.due("fewer than ROOM 2", two.night(), 4);
        dues("fewer than ROOM 2", where(two, 6), 0, 0, 1, 1, -1, -1);
        HollowBed five = Calls.bedsOf("city 9 5;bed 1 1 1;bed 2 2 2" + six, "lie 9-bed");
        five.night();
        dues("fewer than ROOM 5", where(five, 6), 0, 0, 0, 0, 0, 1);
        HollowBed all = Calls.bedsOf("city 9 6;bed 1 1 1;bed 2 2 2" + six, "lie 9-bed");
        calls.due("fewer than ROOM 6", all.night(), 6);
        calls.due("fewer than ROOM 6, all on one", all.bed(0, 3), 63);
        HollowBed fromLast = Calls.bedsOf("city 9 6;bed 1 1 1" + ";bed 2 2 2".repeat(4) + six, "lie 1+bed");
        fromLast.night();
        calls.due("BED 4 has room as others do", fromLast.bed(4, 3), 63);
        calls.due("no BEDS", Calls.bedsOf("city 9 6" + six, "lie 1").night(), 0);
        calls.due("no BEDS, no RULE", Calls.bedsOf("city 9 6" + six).night(), 0);
        calls.due("no LODGERS", Calls.bedsOf("city 9 6;bed 1 1 1", "lie 1").night(), 0);
        HollowBed empty = Calls.bedsOf("city 1 1");
        dues("neither", of(empty.night(), empty.count(6), empty.count(11)), 0, 1, 1);
    }

    private static int lying(String rule) {
        return Calls.bedsOf("city 9 1;bed 40 0 9;lodger 50 2 3", rule).night();
    }

    private static int chosen(String rule) {
        HollowBed x = Calls.bedsOf("city 9 1;bed 40 0 9;bed 41 0 9;bed 42 0 9;lodger 50 2 3", rule);
        x.night();
        return x.lodger(0, 3);
    }

    private static void sumOfRule() {
        calls.due("if it is above 0: 0", lying("lie 0"), 0);
        calls.due("if it is above 0: 1", lying("lie 1"), 1);
        calls.due("if it is above 0: -1", lying("lie 0-1"), 0);
        calls.due("if it is above 0: the least of 64 bits", lying("lie 32768*65536*65536*65536"), 0);
        calls.due("if it is above 0: the greatest of 64 bits", lying("lie 32768*65536*65536*65536-1"), 1);
        calls.due("if it is above 0: beyond 32 bits", lying("lie 65536*65536"), 1);
        calls.due("if it is above 0: 2 ** 31", lying("lie 65536*32768"), 1);
        calls.due("greatest", chosen("lie 1+bed"), 2);
        calls.due("greatest, to the last of 64 bits", chosen("lie 32768*65536*65536*65536-3+bed"), 2);
        calls.due("greatest, above 0 on one alone", chosen("lie bed*bed-bed*3+2"), 0);
        calls.due("greatest, none above 0", chosen("lie 0-bed"), -1);
        calls.due("of several the least: all", chosen("lie 5"), 0);
        calls.due("of several the least: two", chosen("lie 1+bed-bed/2"), 1);
    }

    private static void clausesOfRule() {
        calls.due("first CLAUSE without a TEST", chosen("lie 1;lie 9+bed"), 0);
        calls.due("or whose TEST holds", chosen("lie 3 if bed=1;lie 2"), 1);
        calls.due("the first, though a later one is greater", chosen("lie 1 if bed>=1;lie 0;lie 99"), 1);
        calls.due("the first, though it is 0", chosen("lie 0 if bed<2;lie 1"), 2);
        calls.due("the first, though it is below 0", chosen("lie 0-1 if bed<2;lie 1"), 2);
        calls.due("0 without", chosen("lie 9 if bed>2"), -1);
        calls.due("0 without, of twelve", chosen("lie 9 if bed>2" + ";lie 9 if bed>2".repeat(11)), -1);
        calls.due("the twelfth", chosen("lie 9 if bed>2" + ";lie 9 if bed>2".repeat(10) + ";lie 9 if bed=2"), 2);
    }

    private static void eachByHowAllIsThen() {
        String three = "city 9 2;bed 10 0 9;bed 20 0 9;lodger 50 1 0;lodger 60 1 0;lodger 70 1 0";
        HollowBed fuller = Calls.bedsOf(three, "lie 3-room");
        fuller.night();
        dues("room: how many more may lie there", where(fuller, 3), 0, 0, 1);
        HollowBed emptier = Calls.bedsOf(three, "lie room");
        emptier.night();
        dues("room at their turn", where(emptier, 3), 0, 1, 0);
        HollowBed one = Calls.bedsOf(three, "lie 1 if room=1");
        calls.due("room is ROOM on an empty BED", one.night(), 0);
        HollowBed last = Calls.bedsOf(three, "lie 1+last");
        last.lead(0, 1);
        last.lead(2, 1);
        last.night();
        dues("last: on the NIGHT ahead, not on this one", where(last, 3), 1, 0, 1);
        HollowBed ones = Calls.bedsOf(three, "lie 1 if lodger=0 and last=1 and bed=1 or lodger=1 and last=0 and bed=1");
        ones.lead(0, 1);
        ones.night();
        dues("last: 1 if they lay there, else 0", where(ones, 3), 1, 1, -1);
        HollowBed never = Calls.bedsOf(three, "lie last");
        calls.due("last at NIGHT 0", never.night(), 0);
        HollowBed near = Calls.bedsOf("city 9 2;bed 10 0 1;bed 90 0 1;lodger 10 1 0;lodger 51 1 0;lodger 50 1 0;lodger 49 1 0", "lie 100-near");
        near.night();
        dues("near: by how much they differ, either way", where(near, 4), 0, 1, 0, 1);
        HollowBed bodies = Calls.bedsOf("city 9 6;bed 10 0 1;bed 20 0 1;lodger 99 1 0;lodger 99 1 0", "lie hollow if lodger=0;lie 99-hollow");
        bodies.night();
        dues("HOLLOW has not moved as the next one lies down", where(bodies, 2), 1, 0);
        HollowBed nightly = Calls.bedsOf("city 9 6;bed 10 0 1;lodger 99 1 0", "lie 1 if night=2");
        dues("night", of(nightly.night(), nightly.night(), nightly.night(), nightly.night()), 0, 0, 1, 0);
    }

    private static void withoutRule() {
        HollowBed x = Calls.bedsOf("city 9 1;bed 10 0 9;bed 20 0 9;bed 30 0 9;lodger 50 9 0;lodger 60 9 0;lodger 70 9 0");
        x.lead(0, 2);
        x.lead(1, 2);
        x.lead(2, 1);
        x.night();
        dues("where they lay; else the least with room", where(x, 3), 2, 0, 1);
        HollowBed taken = Calls.bedsOf("city 9 1;bed 10 0 9;bed 20 0 9;lodger 50 9 0;lodger 60 9 0;lodger 70 9 0");
        taken.lead(2, 0);
        calls.due("by numbers, not by where they lay", taken.night(), 2);
        dues("on none, if there is none such", where(taken, 3), 0, 1, -1);
        HollowBed again = Calls.bedsOf("city 9 2;bed 10 0 9;bed 20 0 9;lodger 50 9 0;lodger 60 9 0;lodger 70 9 0");
        again.lead(0, 1);
        again.lead(1, 1);
        again.lead(2, 1);
        again.night();
        dues("ROOM 2 where they lay", where(again, 3), 1, 1, 0);
        HollowBed floor = Calls.bedsOf("city 9 1;bed 10 0 9;lodger 50 9 0;lodger 60 9 0");
        Calls.nights(floor, 4);
        dues("the floor is no BED", of(floor.lodger(1, 0), floor.lodger(1, 3), floor.lodger(1, 4), floor.lodger(0, 4)), 60, -1, 0, 4);
    }

    /** SHAPE behind a NIGHT on a BED of that HOLLOW. */
    private static int shapeBehind(int shape, int body, int hollow) {
        HollowBed x = Calls.bedsOf("city 60 1;bed " + hollow + " 0 9;lodger " + shape + " " + body + " 0");
        x.night();
        return x.lodger(0, 0);
    }

    private static void shapes() {
        calls.due("SHAPE, BODY 1", shapeBehind(0, 1, 99), 99);
        calls.due("SHAPE, BODY 1, below 0", shapeBehind(99, 1, 0), 0);
        calls.due("SHAPE, towards 0", shapeBehind(10, 4, 17), 11);
        calls.due("SHAPE, towards 0; below 0, too", shapeBehind(17, 4, 10), 16);
        calls.due("SHAPE, less than BODY", shapeBehind(10, 9, 18), 10);
        calls.due("SHAPE, less than BODY; below 0, too", shapeBehind(18, 9, 10), 18);
        calls.due("SHAPE, as much as BODY", shapeBehind(10, 9, 19), 11);
        calls.due("SHAPE, as much as BODY; below 0, too", shapeBehind(19, 9, 10), 18);
        calls.due("SHAPE, nothing more", shapeBehind(50, 1, 50), 50);
        calls.due("SHAPE, BODY 9 from end to end", shapeBehind(0, 9, 99), 11);
        HollowBed floor = Calls.bedsOf("city 60 1;bed 0 0 1;lodger 99 1 0", "lie 0");
        floor.night();
        dues("SHAPE of each who lies on a BED alone", of(floor.lodger(0, 0), floor.bed(0, 0)), 99, 0);
    }

    /** HOLLOW of a BED behind a NIGHT on which these lie there. */
    private static int hollowBehind(int hollow, int stuff, int... shapes) {
        StringBuilder text = new StringBuilder("city 60 6;bed " + hollow + " 7 " + stuff);
        for (int shape : shapes) text.append(";lodger ").append(shape).append(" 9 0");
        HollowBed x = Calls.bedsOf(text.toString());
        x.night();
        calls.due("UNDER stays", x.bed(0, 1), 7);
        return x.bed(0, 0);
    }

    private static void hollows() {
        calls.due("HOLLOW, STUFF 1", hollowBehind(0, 1, 99), 99);
        calls.due("HOLLOW, STUFF 1, below 0", hollowBehind(99, 1, 0), 0);
        calls.due("HOLLOW, towards 0", hollowBehind(10, 4, 17), 11);
        calls.due("HOLLOW, towards 0; below 0, too", hollowBehind(17, 4, 10), 16);
        calls.due("HOLLOW, less than STUFF", hollowBehind(10, 9, 18), 10);
        calls.due("HOLLOW, less than STUFF; below 0, too", hollowBehind(18, 9, 10), 18);
        calls.due("HOLLOW, as much as STUFF", hollowBehind(10, 9, 19), 11);
        calls.due("HOLLOW, as much as STUFF; below 0, too", hollowBehind(19, 9, 10), 18);
        calls.due("mean, of the sum, downwards", hollowBehind(0, 1, 30, 31), 30);
        calls.due("mean, of the sum, not of each", hollowBehind(0, 1, 1, 1, 1, 2, 2, 2), 1);
        calls.due("mean, of the sum, not of each", hollowBehind(0, 1, 1, 1, 2, 2, 3, 3), 2);
        calls.due("mean of six", hollowBehind(0, 1, 99, 99, 99, 99, 99, 99), 99);
        calls.due("mean below HOLLOW, downwards ahead of STUFF", hollowBehind(40, 3, 30, 31), 37);
        HollowBed bare = Calls.bedsOf("city 60 1;bed 33 44 1;bed 34 45 1;lodger 99 1 0");
        bare.night();
        dues("each BED on which somebody lies alone", of(bare.bed(0, 0), bare.bed(1, 0), bare.bed(1, 1)), 99, 34, 45);
    }

    private static void allAtOnce() {
        HollowBed x = Calls.bedsOf("city 60 2;bed 10 0 1;lodger 90 1 0;lodger 50 1 0");
        x.night();
        dues("by how it was as the NIGHT began", of(x.lodger(0, 0), x.lodger(1, 0), x.bed(0, 0)), 10, 10, 70);
        x.night();
        dues("and again", of(x.lodger(0, 0), x.lodger(1, 0), x.bed(0, 0)), 70, 70, 10);
    }

    private static void cards() {
        HollowBed each = Calls.bedsOf("city 1 1;bed 0 99 9");
        each.night();
        dues("CARD 1: NIGHT 0", of(each.bed(0, 0), each.bed(0, 1)), 25, 74);
        each.night();
        dues("CARD 1: NIGHT 1", of(each.bed(0, 0), each.bed(0, 1)), 37, 62);
        HollowBed two = Calls.bedsOf("city 2 1;bed 0 99 9");
        int[] hollow = new int[5];
        for (int i = 0; i < 5; i++) {
            two.night();
            hollow[i] = two.bed(0, 0);
        }
        dues("CARD 2: NIGHTS 1 and 3", hollow, 0, 25, 25, 37, 37);
        HollowBed sixty = Calls.bedsOf("city 60 1;bed 0 99 9");
        Calls.nights(sixty, 59);
        dues("CARD 60: NIGHT 58", of(sixty.bed(0, 0), sixty.bed(0, 1)), 0, 99);
        sixty.night();
        dues("CARD 60: NIGHT 59", of(sixty.bed(0, 0), sixty.bed(0, 1)), 25, 74);
        Calls.nights(sixty, 59);
        dues("CARD 60: NIGHT 118", of(sixty.bed(0, 0), sixty.bed(0, 1)), 25, 74);
        sixty.night();
        dues("CARD 60: NIGHT 119", of(sixty.bed(0, 0), sixty.bed(0, 1)), 37, 62);
        HollowBed half = Calls.bedsOf("city 1 1;bed 49 51 9;bed 50 48 9");
        half.night();
        dues("half of the sum, downwards", of(half.bed(0, 0), half.bed(0, 1), half.bed(1, 0), half.bed(1, 1)), 49, 50, 50, 49);
        HollowBed behind = Calls.bedsOf("city 1 1;bed 10 0 1;lodger 30 1 0");
        behind.night();
        dues("(3) behind (2)", of(behind.bed(0, 0), behind.lodger(0, 0)), 40, 10);
    }

    private static void lastNight() {
        HollowBed x = Calls.bedsOf("city 1 1;bed 10 0 1;lodger 30 1 0");
        Calls.nights(x, 998);
        dues("NIGHT 998", of(x.count(6), x.night(), x.count(6)), 998, 1, 999);
        int[] seen = Calls.view(x);
        calls.due("999 at most", x.night(), -1);
        dues("at NIGHT 999 nothing happens", Calls.view(x), seen);
        dues("one UNDONE, one more can come", of(x.undo(), x.count(6), x.night(), x.count(6), x.night()), 19, 998, 1, 999, -1);
        dues("other ACTS at NIGHT 999", of(x.turn(0) >= 0 ? 1 : 0, x.stuff(0, 5), x.count(11)), 1, 1, 20);
    }

    private static void turnAndStuff() {
        HollowBed x = Calls.bedsOf("city 9 1;bed 7 7 5;bed 0 99 5");
        dues("TURN: HOLLOW and UNDER change places", of(x.turn(1), x.bed(1, 0), x.bed(1, 1)), 99, 99, 0);
        dues("TURN of two alike is an ACT", of(x.turn(0), x.count(11)), 7, 2);
        dues("TURN: no other BED", of(x.bed(0, 0), x.bed(0, 1), x.bed(0, 2)), 7, 7, 5);
        dues("STUFF, 1 to 9", of(x.stuff(0, 0), x.stuff(0, 1), x.stuff(0, 9), x.stuff(0, 10), x.bed(0, 2)), -1, 5, 1, -1, 9);
        dues("STUFF, another", of(x.stuff(1, 5), x.count(11), x.stuff(1, 4), x.stuff(1, 5), x.count(11)), -1, 4, 5, 4, 6);
    }

    private static void burnAndLead() {
        HollowBed x = Calls.bedsOf("city 9 1;bed 50 50 5;bed 50 49 5;bed 51 50 5;bed 0 99 5;lodger 5 5 5;lodger 6 6 6");
        dues("BURN, if they are not both already", of(x.burn(0), x.count(11), x.burn(1), x.burn(2), x.burn(3), x.count(11)), -1, 0, 50, 51, 0, 3);
        for (int bed = 0; bed < 4; bed++) {
            dues("BURN: 50", of(x.bed(bed, 0), x.bed(bed, 1), x.bed(bed, 2), x.burn(bed)), 50, 50, 5, -1);
        }
        dues("LEAD, another one than they did", of(x.lead(0, 3), x.lead(0, 3), x.lead(0, 0), x.count(11)), -1, -2, 3, 5);
        dues("LEAD to none", of(x.lead(0, -1), x.lodger(0, 3)), -2, 0);
        dues("LEAD beyond ROOM", of(x.lead(1, 0), x.bed(0, 3)), -1, 3);
        dues("LEAD: nothing else", of(x.lodger(1, 0), x.lodger(1, 4), x.count(9), x.count(6)), 6, 0, 0, 0);
    }

    private static void twentyActs() {
        HollowBed x = Calls.bedsOf("city 9 1;bed 1 2 5");
        for (int i = 1; i <= 19; i++) x.turn(0);
        calls.due("19 ACTS", x.count(11), 19);
        x.turn(0);
        calls.due("20 ACTS", x.count(11), 20);
        x.stuff(0, 6);
        calls.due("of 21 ACTS the last 20", x.count(11), 20);
        dues("the last first", of(x.bed(0, 2), x.undo(), x.bed(0, 2)), 6, 19, 5);
        for (int i = 18; i >= 0; i--) calls.due("how many more", x.undo(), i);
        dues("the first of 21 stays", of(x.undo(), x.bed(0, 0), x.bed(0, 1)), -2, 2, 1);
        dues("ACTS go on behind", of(x.burn(0), x.count(11), x.undo(), x.bed(0, 0), x.undo()), 2, 1, 0, 2, -2);
        HollowBed mixed = Calls.bedsOf("city 9 1;bed 1 2 5;lodger 0 1 0");
        mixed.burn(0);
        for (int i = 0; i < 4; i++) {
            mixed.night();
            mixed.turn(0);
            mixed.stuff(0, i % 2 == 0 ? 9 : 5);
            mixed.burn(0);
            mixed.force(-1);
            mixed.lead(0, 0);
        }
        // A NIGHT, a TURN and a STUFF each time; BURN at first and behind the first NIGHT, which alone moves HOLLOW; no LEAD.
        calls.due("ACTS of all kinds, refused ones none", mixed.count(11), 4 * 3 + 2);
        while (mixed.undo() >= 0) calls.due("NIGHTS go back, too", mixed.count(6) <= 4 ? 1 : 0, 1);
        dues("as at first", of(mixed.bed(0, 0), mixed.bed(0, 1), mixed.bed(0, 2), mixed.lodger(0, 0), mixed.lodger(0, 3),
            mixed.lodger(0, 4), mixed.count(6)), 1, 2, 5, 0, -1, 0, 0);
    }

    /** Each ACT UNDONE by itself, from every place at which a row of 20 can begin anew. */
    private static void eachOfTwenty() {
        for (int many = 1; many <= 45; many++) {
            HollowBed x = Calls.bedsOf("city 7 1;bed 1 2 5;lodger 90 3 0");
            int[][] seen = new int[many + 1][];
            for (int i = 0; i < many; i++) {
                seen[i] = asItIs(x);
                x.night();
            }
            int can = Math.min(many, 20);
            for (int i = 1; i <= can; i++) {
                calls.due("of " + many + " ACTS the last " + i + ", how many more", x.undo(), can - i);
                dues("of " + many + " ACTS the last " + i, asItIs(x), seen[many - i]);
            }
            calls.due("of " + many + " ACTS no more", x.undo(), -2);
            calls.due("of " + many + " ACTS those ahead stay", x.count(6), many - can);
        }
    }

    private static int[] asItIs(HollowBed x) {
        return of(x.count(6), x.bed(0, 0), x.bed(0, 1), x.bed(0, 3), x.lodger(0, 0), x.lodger(0, 3), x.lodger(0, 4));
    }
}
