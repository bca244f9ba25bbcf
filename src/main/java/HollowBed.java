/**
 * A lodging city in which the shapes of lodgers go to the hollows of mattresses and the hollows to
 * the lodgers. Every row that a call needs is made with the object, so that calls make nothing.
 */
public final class HollowBed {
    public static final int NONE = -1;

    private static final int NO_SUCH = -2;
    private static final int REFUSED = -3;

    private static final int TAPE_MOST = 400;
    private static final int FEED_BYTES = 20;
    private static final int BEDS_MOST = 5;
    private static final int LODGERS_MOST = 6;
    private static final int RULES_MOST = 6;
    private static final int IMAGES_MOST = 4;
    private static final int NOTES_MOST = 10;
    private static final int NIGHT_MOST = 999;
    private static final int NOTE_NIGHT_MOST = 60;
    private static final int CARD_MOST = 60;
    private static final int ROW_NIGHTS_MOST = 4;
    /** More than any FAR. */
    private static final int FARTHEST = 1000000;

    private final int[] tape = new int[TAPE_MOST];
    private int tapeSize;
    private final Rule[] rules = new Rule[RULES_MOST];
    private int ruleCount;
    private final Ledger now = new Ledger();
    private final Ledger[] images = new Ledger[IMAGES_MOST];
    private final boolean[] imageMade = new boolean[IMAGES_MOST];
    private final Reader reader = new Reader();
    private final Nights nights = new Nights();
    private final Foresight foresight = new Foresight(nights);
    private final Choices choices = new Choices(nights);
    private final Inquiry inquiry = new Inquiry(nights);

    public HollowBed() {
        for (int i = 0; i < RULES_MOST; i++) {
            rules[i] = new Rule();
        }
        for (int k = 0; k < IMAGES_MOST; k++) {
            images[k] = new Ledger();
        }
    }

    public int feed(int a, int b, int c, int d, int e) {
        if (tapeSize + FEED_BYTES > TAPE_MOST) {
            return NONE;
        }
        append(a);
        append(b);
        append(c);
        append(d);
        append(e);
        return tapeSize;
    }

    private void append(int number) {
        for (int shift = 24; shift >= 0; shift -= 8) {
            if (tapeSize < TAPE_MOST) {
                tape[tapeSize] = (number >>> shift) & 255;
                tapeSize++;
            }
        }
    }

    public int end(int n) {
        if (n < 0 || n > tapeSize) {
            return NONE;
        }
        tapeSize = n;
        return n;
    }

    public int city() {
        int fault = reader.readCity(tape, tapeSize);
        tapeSize = 0;
        if (fault != 0) {
            return NO_SUCH - fault;
        }
        now.beginWith(reader.draft);
        return now.town.beds;
    }

    public int rule() {
        if (ruleCount >= RULES_MOST) {
            return NONE;
        }
        int fault = reader.readRule(tape, tapeSize, rules[ruleCount]);
        tapeSize = 0;
        if (fault != 0) {
            return NO_SUCH - fault;
        }
        ruleCount++;
        return ruleCount - 1;
    }

    public int force(int rule) {
        if (rule < NONE || rule >= ruleCount) {
            return NO_SUCH;
        }
        int was = now.inForce;
        now.inForce = rule;
        return was;
    }

    private Rule ruleInForce() {
        int number = now.inForce;
        return number >= 0 && number < ruleCount ? rules[number] : null;
    }

    public int bed(int bed, int what) {
        Town town = now.town;
        if (!town.hasBed(bed)) {
            return NONE;
        }
        switch (what) {
            case 0: return town.hollow[bed];
            case 1: return town.under[bed];
            case 2: return town.stuffing[bed];
            case 3: return town.lodgersOn(bed);
            default: return NONE;
        }
    }

    public int lodger(int lodger, int what) {
        Town town = now.town;
        if (!town.hasLodger(lodger)) {
            return NO_SUCH;
        }
        switch (what) {
            case 0: return town.shape[lodger];
            case 1: return town.body[lodger];
            case 2: return town.wants[lodger];
            case 3: return town.last[lodger];
            case 4: return town.slept[lodger];
            case 5: return town.far(lodger);
            default: return NO_SUCH;
        }
    }

    public int night() {
        if (!now.town.stands() || now.town.night >= NIGHT_MOST) {
            return NONE;
        }
        now.keepForUndo();
        return nights.pass(now.town, ruleInForce(), null);
    }

    public int turn(int bed) {
        if (!now.town.hasBed(bed)) {
            return NONE;
        }
        now.keepForUndo();
        now.town.swapSides(bed);
        return now.town.hollow[bed];
    }

    public int stuff(int bed, int much) {
        Town town = now.town;
        if (!town.hasBed(bed) || much < 1 || much > 9 || much == town.stuffing[bed]) {
            return NONE;
        }
        now.keepForUndo();
        int was = town.stuffing[bed];
        town.stuffing[bed] = much;
        return was;
    }

    public int burn(int bed) {
        Town town = now.town;
        if (!town.hasBed(bed) || town.hollow[bed] == Town.FLAT && town.under[bed] == Town.FLAT) {
            return NONE;
        }
        now.keepForUndo();
        int was = town.hollow[bed];
        town.hollow[bed] = Town.FLAT;
        town.under[bed] = Town.FLAT;
        return was;
    }

    public int lead(int lodger, int bed) {
        Town town = now.town;
        if (!town.hasLodger(lodger) || !town.hasBed(bed) || town.last[lodger] == bed) {
            return NO_SUCH;
        }
        now.keepForUndo();
        int was = town.last[lodger];
        town.last[lodger] = bed;
        return was;
    }

    public int undo() {
        return now.past.takeBack(now.town) ? now.past.acts : NO_SUCH;
    }

    public int ahead(int number, int n, int what) {
        Town town = now.town;
        if (!town.stands() || n < 0 || n > 100 || what < 0 || what > 3) {
            return NO_SUCH;
        }
        boolean ofLodger = what == 0 || what == 1;
        if (ofLodger && !town.hasLodger(number) || what == 2 && !town.hasBed(number)) {
            return NO_SUCH;
        }
        Town then = foresight.after(town, ruleInForce(), n);
        switch (what) {
            case 0: return then.shape[number];
            case 1: return then.last[number];
            case 2: return then.hollow[number];
            default: return then.farOfAll();
        }
    }

    public int comes(int lodger, int shape) {
        if (!now.town.hasLodger(lodger) || shape < 0 || shape > 99) {
            return NONE;
        }
        return foresight.firstNightOf(now.town, ruleInForce(), lodger, shape);
    }

    public int row(int lodger, int n, int what) {
        boolean known = n >= 1 && n <= ROW_NIGHTS_MOST && what >= 0 && what <= ROW_NIGHTS_MOST;
        if (!known || !now.town.hasLodger(lodger)) {
            return REFUSED;
        }
        if (what > n) {
            return NO_SUCH;
        }
        choices.findRow(now.town, ruleInForce(), lodger, n);
        return choices.told(what);
    }

    public int tonight(int what) {
        if (!now.town.stands() || what < NONE || what >= LODGERS_MOST) {
            return REFUSED;
        }
        if (what >= now.town.lodgers) {
            return NO_SUCH;
        }
        choices.findTonight(now.town);
        return choices.told(what + 1);
    }

    public int turned(int n, int what) {
        if (!now.town.stands() || n < 1 || n > 60 || what < 0 || what > 1) {
            return NO_SUCH;
        }
        foresight.findTurned(now.town, ruleInForce(), n);
        return foresight.told(what);
    }

    public int lain(int bed, int hollow, int what) {
        boolean known = hollow >= 0 && hollow <= 99 && what >= 0 && what <= 2;
        if (!known || !now.town.hasBed(bed)) {
            return REFUSED;
        }
        choices.findLain(now.town, bed, hollow);
        return choices.told(what);
    }

    public int twins(int n, int what) {
        if (!now.town.stands() || n < 0 || n > 100 || what < 0 || what > 2) {
            return NONE;
        }
        foresight.findTwins(now.town, ruleInForce(), n);
        return foresight.told(what);
    }

    public int settled(int what) {
        if (!now.town.stands() || what < 0 || what > 1) {
            return NONE;
        }
        foresight.findSettled(now.town, ruleInForce());
        return foresight.told(what);
    }

    public int best(int n, int what) {
        if (!now.town.stands() || n < 1 || n > 60 || what < 0 || what > 1) {
            return NONE;
        }
        foresight.findBest(now.town, ruleInForce(), n);
        return foresight.told(what);
    }

    public int rests(int one, int other, int n, int what) {
        boolean known = n >= 1 && n <= 20 && what >= 0 && what <= 2 && one != other;
        if (!known || !now.town.hasLodger(one) || !now.town.hasLodger(other)) {
            return NONE;
        }
        choices.findRests(now.town, ruleInForce(), one, other, n);
        return choices.told(what);
    }

    public int rent(int much, int lodger) {
        if (much < 0 || much > 9999 || !now.town.hasLodger(lodger)) {
            return NONE;
        }
        return now.town.rentOf(much, lodger);
    }

    public int note(int n, int lodger, int bed) {
        if (n == NONE) {
            now.notes = 0;
            return 0;
        }
        boolean place = bed == NONE || now.town.hasBed(bed);
        if (n < 0 || n > NOTE_NIGHT_MOST || !place || !now.town.hasLodger(lodger)) {
            return NO_SUCH;
        }
        return now.addNote(n, lodger, bed);
    }

    public int ruled(int what) {
        if (!now.town.stands() || what < 0 || what > 1) {
            return REFUSED;
        }
        inquiry.findRuled(now, rules, ruleCount);
        return inquiry.told(what);
    }

    public int look(int n, int what) {
        if (!now.town.stands() || n < 0 || n > NOTE_NIGHT_MOST || what < 0 || what > 1) {
            return NONE;
        }
        inquiry.findLook(now, rules, ruleCount, n);
        return inquiry.told(what);
    }

    public int seed(int x) {
        if (x < 0) {
            return NONE;
        }
        int was = now.x;
        now.x = x;
        return was;
    }

    public int mays(int m, int n, int p, int what) {
        boolean known = m >= 1 && m <= 10 && n >= 1 && n <= 60 && p >= 0 && p <= 100;
        if (!known || what < 0 || what > 1 || !now.town.stands()) {
            return NONE;
        }
        foresight.findMays(now, ruleInForce(), m, n, p);
        return foresight.told(what);
    }

    public int count(int what) {
        Town town = now.town;
        switch (what) {
            case 0: return town.card;
            case 1: return town.room;
            case 2: return town.beds;
            case 3: return town.lodgers;
            case 4: return ruleCount;
            case 5: return now.inForce;
            case 6: return town.night;
            case 7: return town.farOfAll();
            case 8: return town.hollowOfAll();
            case 9: return town.sleptOfAll();
            case 10: return now.notes;
            case 11: return now.past.acts;
            case 12: return now.x;
            case 13: return tapeSize;
            default: return NONE;
        }
    }

    public int image(int k) {
        if (k < 0 || k >= IMAGES_MOST) {
            return NONE;
        }
        images[k].copyFrom(now);
        imageMade[k] = true;
        return now.town.night;
    }

    public int back(int k) {
        if (k < 0 || k >= IMAGES_MOST || !imageMade[k]) {
            return NONE;
        }
        now.copyFrom(images[k]);
        return now.town.night;
    }

    /** The CITY at one time. CARD is 0 where there is none, which no text can tell. */
    private static final class Town {
        /** What a burnt or endlessly carded side comes to. */
        static final int FLAT = 50;
        /** How many numbers a NIGHT or another ACT can change. */
        static final int CHANGING = 3 * BEDS_MOST + 3 * LODGERS_MOST + 1;

        int card;
        int room;
        int beds;
        int lodgers;
        int night;
        final int[] hollow = new int[BEDS_MOST];
        final int[] under = new int[BEDS_MOST];
        final int[] stuffing = new int[BEDS_MOST];
        final int[] shape = new int[LODGERS_MOST];
        final int[] body = new int[LODGERS_MOST];
        final int[] wants = new int[LODGERS_MOST];
        final int[] last = new int[LODGERS_MOST];
        final int[] slept = new int[LODGERS_MOST];

        boolean stands() {
            return card > 0;
        }

        boolean hasBed(int bed) {
            return bed >= 0 && bed < beds && bed < BEDS_MOST;
        }

        boolean hasLodger(int lodger) {
            return lodger >= 0 && lodger < lodgers && lodger < LODGERS_MOST;
        }

        int far(int lodger) {
            return hasLodger(lodger) ? Math.abs(shape[lodger] - wants[lodger]) : 0;
        }

        int farOfAll() {
            int sum = 0;
            for (int i = 0; i < lodgers; i++) {
                sum += far(i);
            }
            return sum;
        }

        int hollowOfAll() {
            int sum = 0;
            for (int i = 0; i < beds && i < BEDS_MOST; i++) {
                sum += hollow[i];
            }
            return sum;
        }

        int sleptOfAll() {
            int sum = 0;
            for (int i = 0; i < lodgers && i < LODGERS_MOST; i++) {
                sum += slept[i];
            }
            return sum;
        }

        int lodgersOn(int bed) {
            int bits = 0;
            for (int i = 0; i < lodgers && i < LODGERS_MOST; i++) {
                if (last[i] == bed) {
                    bits |= 1 << i;
                }
            }
            return bits;
        }

        /** SHAPE of a LODGER behind a NIGHT on a BED (on none: as it is). */
        int shapeBehind(int lodger, int bed) {
            if (!hasLodger(lodger)) {
                return 0;
            }
            int was = shape[lodger];
            int by = body[lodger];
            return hasBed(bed) && by > 0 ? was + (hollow[bed] - was) / by : was;
        }

        /** HOLLOW of a BED behind (2) of a NIGHT on which these LODGERS lie there. */
        int hollowBehind(int bed, int lodgerBits) {
            if (!hasBed(bed)) {
                return 0;
            }
            int sum = 0;
            int many = 0;
            for (int i = 0; i < lodgers && i < LODGERS_MOST; i++) {
                if ((lodgerBits >> i & 1) == 1) {
                    sum += shape[i];
                    many++;
                }
            }
            int was = hollow[bed];
            int by = stuffing[bed];
            return many > 0 && by > 0 ? was + (Math.floorDiv(sum, many) - was) / by : was;
        }

        void swapSides(int bed) {
            if (hasBed(bed)) {
                int above = hollow[bed];
                hollow[bed] = under[bed];
                under[bed] = above;
            }
        }

        void cardAllIfDue() {
            if (card < 1 || night % card != card - 1) {
                return;
            }
            for (int i = 0; i < beds && i < BEDS_MOST; i++) {
                hollow[i] = Math.floorDiv(hollow[i] + FLAT, 2);
                under[i] = Math.floorDiv(under[i] + FLAT, 2);
            }
        }

        int rentOf(int much, int lodger) {
            int all = sleptOfAll();
            if (all < 1 || !hasLodger(lodger)) {
                return 0;
            }
            int left = much;
            int aheadOfThem = 0;
            int lost = much * slept[lodger] % all;
            for (int i = 0; i < lodgers && i < LODGERS_MOST; i++) {
                int lostByOther = much * slept[i] % all;
                left -= much * slept[i] / all;
                if (lostByOther > lost || lostByOther == lost && i < lodger) {
                    aheadOfThem++;
                }
            }
            return much * slept[lodger] / all + (aheadOfThem < left ? 1 : 0);
        }

        void clear() {
            card = 0;
            room = 0;
            beds = 0;
            lodgers = 0;
            night = 0;
        }

        void addBed(int above, int below, int stuffed) {
            if (beds < BEDS_MOST) {
                hollow[beds] = above;
                under[beds] = below;
                stuffing[beds] = stuffed;
                beds++;
            }
        }

        void addLodger(int shaped, int bodied, int wanted) {
            if (lodgers < LODGERS_MOST) {
                shape[lodgers] = shaped;
                body[lodgers] = bodied;
                wants[lodgers] = wanted;
                last[lodgers] = NONE;
                slept[lodgers] = 0;
                lodgers++;
            }
        }

        void copyFrom(Town other) {
            card = other.card;
            room = other.room;
            beds = other.beds;
            lodgers = other.lodgers;
            night = other.night;
            for (int i = 0; i < BEDS_MOST; i++) {
                hollow[i] = other.hollow[i];
                under[i] = other.under[i];
                stuffing[i] = other.stuffing[i];
            }
            for (int i = 0; i < LODGERS_MOST; i++) {
                shape[i] = other.shape[i];
                body[i] = other.body[i];
                wants[i] = other.wants[i];
                last[i] = other.last[i];
                slept[i] = other.slept[i];
            }
        }

        void packInto(int[] rows, int from) {
            if (from < 0 || from + CHANGING > rows.length) {
                return;
            }
            int at = from;
            rows[at++] = night;
            for (int i = 0; i < BEDS_MOST; i++) {
                rows[at++] = hollow[i];
                rows[at++] = under[i];
                rows[at++] = stuffing[i];
            }
            for (int i = 0; i < LODGERS_MOST; i++) {
                rows[at++] = shape[i];
                rows[at++] = last[i];
                rows[at++] = slept[i];
            }
        }

        void unpackFrom(int[] rows, int from) {
            if (from < 0 || from + CHANGING > rows.length) {
                return;
            }
            int at = from;
            night = rows[at++];
            for (int i = 0; i < BEDS_MOST; i++) {
                hollow[i] = rows[at++];
                under[i] = rows[at++];
                stuffing[i] = rows[at++];
            }
            for (int i = 0; i < LODGERS_MOST; i++) {
                shape[i] = rows[at++];
                last[i] = rows[at++];
                slept[i] = rows[at++];
            }
        }
    }

    /** What can be UNDONE: a ring of how the CITY was ahead of each of the last ACTS. */
    private static final class Past {
        static final int ACTS_MOST = 20;

        final int[] rows = new int[ACTS_MOST * Town.CHANGING];
        int acts;
        int next;

        void keep(Town town) {
            town.packInto(rows, next * Town.CHANGING);
            next = (next + 1) % ACTS_MOST;
            acts = Math.min(acts + 1, ACTS_MOST);
        }

        boolean takeBack(Town town) {
            if (acts < 1) {
                return false;
            }
            acts--;
            next = (next + ACTS_MOST - 1) % ACTS_MOST;
            town.unpackFrom(rows, next * Town.CHANGING);
            return true;
        }

        void forget() {
            acts = 0;
            next = 0;
        }

        void copyFrom(Past other) {
            acts = other.acts;
            next = other.next;
            for (int i = 0; i < ACTS_MOST * Town.CHANGING; i++) {
                rows[i] = other.rows[i];
            }
        }
    }

    /** All that an IMAGE keeps: everything but the RULES and the TAPE. */
    private static final class Ledger {
        final Town town = new Town();
        /** As the text told it, for RULED and LOOK. */
        final Town told = new Town();
        final Past past = new Past();
        final int[] noteNight = new int[NOTES_MOST];
        final int[] noteLodger = new int[NOTES_MOST];
        final int[] noteBed = new int[NOTES_MOST];
        int notes;
        int inForce = NONE;
        int x;

        void beginWith(Town draft) {
            town.copyFrom(draft);
            told.copyFrom(draft);
            past.forget();
            notes = 0;
        }

        void keepForUndo() {
            past.keep(town);
        }

        int addNote(int n, int lodger, int bed) {
            if (notes >= NOTES_MOST) {
                return NO_SUCH;
            }
            noteNight[notes] = n;
            noteLodger[notes] = lodger;
            noteBed[notes] = bed;
            notes++;
            return notes;
        }

        int lastNotedNight() {
            int latest = NONE;
            for (int i = 0; i < notes && i < NOTES_MOST; i++) {
                latest = Math.max(latest, noteNight[i]);
            }
            return latest;
        }

        /** Whether the NOTES of the n-th NIGHT are so in a CITY that has just had it. */
        boolean agrees(Town then, int n) {
            for (int i = 0; i < notes && i < NOTES_MOST; i++) {
                int who = noteLodger[i];
                if (noteNight[i] == n && then.hasLodger(who) && then.last[who] != noteBed[i]) {
                    return false;
                }
            }
            return true;
        }

        void copyFrom(Ledger other) {
            town.copyFrom(other.town);
            told.copyFrom(other.told);
            past.copyFrom(other.past);
            for (int i = 0; i < NOTES_MOST; i++) {
                noteNight[i] = other.noteNight[i];
                noteLodger[i] = other.noteLodger[i];
                noteBed[i] = other.noteBed[i];
            }
            notes = other.notes;
            inForce = other.inForce;
            x = other.x;
        }
    }

    /**
     * A RULE as steps for a stack of numbers, operands first. The steps of a CLAUSE's SUM go from
     * sumAt to testAt, those of its TEST, none without one, from there to the next one's sumAt.
     */
    private static final class Rule {
        static final int CLAUSES_MOST = 12;
        /** No step without a byte of its own. */
        static final int STEPS_MOST = TAPE_MOST;

        static final int NUMBER = 0;
        static final int WORD = 1;
        static final int PLUS = 2;
        static final int MINUS = 3;
        static final int TIMES = 4;
        static final int PARTED = 5;
        static final int REST = 6;
        static final int LESS = 7;
        static final int LESS_OR_SAME = 8;
        static final int SAME = 9;
        static final int MORE_OR_SAME = 10;
        static final int MORE = 11;
        static final int AND = 12;
        static final int OR = 13;
        static final int NOT = 14;

        final int[] kind = new int[STEPS_MOST];
        final int[] value = new int[STEPS_MOST];
        int steps;
        final int[] sumAt = new int[CLAUSES_MOST + 1];
        final int[] testAt = new int[CLAUSES_MOST];
        int clauses;

        void clear() {
            steps = 0;
            clauses = 0;
        }

        void add(int stepKind, int stepValue) {
            if (steps < STEPS_MOST) {
                kind[steps] = stepKind;
                value[steps] = stepValue;
                steps++;
            }
        }

        void openClause() {
            if (clauses < CLAUSES_MOST) {
                sumAt[clauses] = steps;
                clauses++;
            }
        }

        void openTest() {
            if (clauses > 0) {
                testAt[clauses - 1] = steps;
            }
        }

        void closeClause() {
            if (clauses <= CLAUSES_MOST) {
                sumAt[clauses] = steps;
            }
        }
    }

    /** Reads the texts of a CITY and of RULES from left to right; the first FAULT stops it. */
    private static final class Reader {
        static final int CLAUSES_OF_CITY_MOST = 40;
        static final int DIGITS_MOST = 5;
        static final int NUMBER_MOST = 99999;
        static final int DEPTH_MOST = 10;
        static final int ITEMS_MOST = 60;
        static final int END = -1;

        static final int CANNOT_STAND = 0;
        static final int BAD_NUMBER = 1;
        static final int TOO_DEEP = 2;
        static final int ITEM_TOO_MANY = 3;
        static final int CLAUSE_TOO_MANY = 4;

        static final String CITY_WORDS = "city bed lodger ";
        /** In the order of the numbers by which Nights knows them. */
        static final String VALUE_WORDS =
            "lodger bed shape body wants hollow under stuff room last near night ";

        final Town draft = new Town();
        private int[] text = new int[0];
        private int length;
        private int place;
        private int fault;
        private int items;
        private Rule rule;

        int readCity(int[] bytes, int size) {
            open(bytes, size);
            draft.clear();
            for (int clause = 0; clause <= CLAUSES_OF_CITY_MOST && fault == 0; clause++) {
                readCityClause(clause);
                if (fault != 0 || clauseListEnds()) {
                    break;
                }
            }
            return fault;
        }

        private void readCityClause(int clause) {
            next();
            int start = place;
            int word = takeWord(CITY_WORDS);
            if (word == NONE) {
                fail(CANNOT_STAND, start);
            } else if (!cityClauseFits(word, clause)) {
                fail(CLAUSE_TOO_MANY, start);
            } else if (word == 0) {
                draft.card = readNumber(1, CARD_MOST);
                draft.room = readNumber(1, 6);
            } else if (word == 1) {
                int above = readNumber(0, 99);
                int below = readNumber(0, 99);
                draft.addBed(above, below, readNumber(1, 9));
            } else {
                int shaped = readNumber(0, 99);
                int bodied = readNumber(1, 9);
                draft.addLodger(shaped, bodied, readNumber(0, 99));
            }
        }

        private boolean cityClauseFits(int word, int clause) {
            if (clause >= CLAUSES_OF_CITY_MOST || (word == 0) != (clause == 0)) {
                return false;
            }
            return word == 0 || (word == 1 ? draft.beds < BEDS_MOST : draft.lodgers < LODGERS_MOST);
        }

        int readRule(int[] bytes, int size, Rule into) {
            open(bytes, size);
            rule = into;
            rule.clear();
            for (int clause = 0; clause <= Rule.CLAUSES_MOST && fault == 0; clause++) {
                next();
                int start = place;
                if (takeWord("lie ") == NONE) {
                    fail(CANNOT_STAND, start);
                } else if (clause == Rule.CLAUSES_MOST) {
                    fail(CLAUSE_TOO_MANY, start);
                }
                rule.openClause();
                readSum();
                rule.openTest();
                next();
                if (fault == 0 && takeWord("if ") != NONE) {
                    readTest(0);
                }
                rule.closeClause();
                if (fault != 0 || clauseListEnds()) {
                    break;
                }
            }
            return fault;
        }

        /** Also joins PARTS: an or waits until the PART behind it is whole. */
        private void readTest(int depth) {
            boolean waiting = false;
            readFact(depth);
            for (int i = 0; i < TAPE_MOST && fault == 0; i++) {
                next();
                int word = takeWord("and or ");
                if (word == NONE) {
                    break;
                }
                if (word == 1 && waiting) {
                    rule.add(Rule.OR, 0);
                }
                waiting = waiting || word == 1;
                readFact(depth);
                if (word == 0) {
                    rule.add(Rule.AND, 0);
                }
            }
            if (waiting) {
                rule.add(Rule.OR, 0);
            }
        }

        private void readFact(int depth) {
            int sign = next();
            int start = place;
            if (fault != 0) {
                return;
            }
            if (sign == '[' || takeWord("not ") != NONE) {
                if (depth >= DEPTH_MOST) {
                    fail(TOO_DEEP, start);
                } else if (sign == '[') {
                    place++;
                    readTest(depth + 1);
                    expectClosing();
                } else {
                    readFact(depth + 1);
                    rule.add(Rule.NOT, 0);
                }
                return;
            }
            readSum();
            int comparison = readSign();
            readSum();
            rule.add(comparison, 0);
        }

        private void expectClosing() {
            if (next() == ']') {
                place++;
            } else {
                fail(CANNOT_STAND, place);
            }
        }

        private int readSign() {
            int sign = next();
            if (sign != '<' && sign != '=' && sign != '>') {
                fail(CANNOT_STAND, place);
                return NONE;
            }
            countItem(place);
            place++;
            boolean same = sign != '=' && place < length && text[place] == '=';
            if (same) {
                place++;
            }
            if (sign == '=') {
                return Rule.SAME;
            }
            if (sign == '<') {
                return same ? Rule.LESS_OR_SAME : Rule.LESS;
            }
            return same ? Rule.MORE_OR_SAME : Rule.MORE;
        }

        /** Also joins TERMS: a + or - waits until the TERM behind it is whole. */
        private void readSum() {
            int waiting = NONE;
            readValue();
            for (int i = 0; i < TAPE_MOST && fault == 0; i++) {
                int step = stepOf(next());
                if (step == NONE) {
                    break;
                }
                place++;
                boolean joinsTerms = step == Rule.PLUS || step == Rule.MINUS;
                if (joinsTerms && waiting != NONE) {
                    rule.add(waiting, 0);
                }
                readValue();
                if (joinsTerms) {
                    waiting = step;
                } else {
                    rule.add(step, 0);
                }
            }
            if (waiting != NONE) {
                rule.add(waiting, 0);
            }
        }

        private static int stepOf(int sign) {
            switch (sign) {
                case '+': return Rule.PLUS;
                case '-': return Rule.MINUS;
                case '*': return Rule.TIMES;
                case '/': return Rule.PARTED;
                case '%': return Rule.REST;
                default: return NONE;
            }
        }

        private void readValue() {
            int sign = next();
            int start = place;
            if (fault != 0) {
                return;
            }
            if (isDigit(sign)) {
                int number = readNumber(0, NUMBER_MOST);
                rule.add(Rule.NUMBER, number);
            } else {
                int word = takeWord(VALUE_WORDS);
                if (word == NONE) {
                    fail(CANNOT_STAND, start);
                }
                rule.add(Rule.WORD, word);
            }
            countItem(start);
        }

        private void countItem(int start) {
            if (items >= ITEMS_MOST) {
                fail(ITEM_TOO_MANY, start);
            }
            items++;
        }

        private int readNumber(int least, int most) {
            int sign = next();
            int start = place;
            if (!isDigit(sign)) {
                fail(CANNOT_STAND, start);
            }
            int number = 0;
            while (place < length && isDigit(text[place])) {
                // Behind the fifth digit it is a FAULT in any case, and more would not fit an int.
                if (place - start < DIGITS_MOST) {
                    number = number * 10 + text[place] - '0';
                }
                place++;
            }
            if (place - start > DIGITS_MOST || number < least || number > most) {
                fail(BAD_NUMBER, start);
            }
            return number;
        }

        /** Steps over the word that stands here if it is one of the list's: which; else NONE. */
        private int takeWord(String list) {
            int which = 0;
            int at = place;
            boolean same = true;
            for (int i = 0; i < list.length(); i++) {
                char letter = list.charAt(i);
                if (letter != ' ') {
                    same = same && at < length && text[at] == letter;
                    at++;
                } else if (same && !(at < length && isLetter(text[at]))) {
                    place = at;
                    return which;
                } else {
                    which++;
                    at = place;
                    same = true;
                }
            }
            return NONE;
        }

        private boolean clauseListEnds() {
            int sign = next();
            if (sign == ';') {
                place++;
                return false;
            }
            if (sign != END) {
                fail(CANNOT_STAND, place);
            }
            return true;
        }

        private void open(int[] bytes, int size) {
            text = bytes;
            length = Math.max(0, Math.min(size, bytes.length));
            place = 0;
            fault = 0;
            items = 0;
        }

        /** The byte that stands next behind blanks. */
        private int next() {
            while (place < length && text[place] == ' ') {
                place++;
            }
            return place < length ? text[place] : END;
        }

        private void fail(int why, int where) {
            if (fault == 0) {
                fault = 1 + 8 * where + why;
            }
        }

        private static boolean isDigit(int sign) {
            return sign >= '0' && sign <= '9';
        }

        private static boolean isLetter(int sign) {
            return sign >= 'a' && sign <= 'z';
        }
    }

    /** Lets NIGHTS pass. */
    private static final class Nights {
        /** In place of a BED to which a LODGER is held: they lie down by the RULE. */
        static final int FREE = -2;
        /** TESTS 11 deep hold back two each, a FACT one, a SUM two, and one VALUE comes. */
        static final int STACK_MOST = 32;

        private final int[] lying = new int[BEDS_MOST];
        private final int[] onBed = new int[BEDS_MOST];
        private final int[] lies = new int[LODGERS_MOST];
        private final int[] nextHollow = new int[BEDS_MOST];
        private final long[] stack = new long[STACK_MOST];

        /** A NIGHT; held, if it is not null, says who is held where: how many lie on BEDS. */
        int pass(Town town, Rule rule, int[] held) {
            for (int i = 0; i < BEDS_MOST; i++) {
                lying[i] = 0;
                onBed[i] = 0;
            }
            int many = 0;
            for (int i = 0; i < town.lodgers && i < LODGERS_MOST; i++) {
                int bed = held == null || i >= held.length ? FREE : held[i];
                if (bed == FREE) {
                    bed = rule == null ? byHabit(town, i) : byRule(town, rule, i);
                }
                lies[i] = NONE;
                if (hasRoom(town, bed)) {
                    lies[i] = bed;
                    lying[bed]++;
                    onBed[bed] |= 1 << i;
                    many++;
                }
            }
            shapeAll(town);
            town.cardAllIfDue();
            town.night++;
            return many;
        }

        private boolean hasRoom(Town town, int bed) {
            return town.hasBed(bed) && lying[bed] < town.room;
        }

        private int byHabit(Town town, int lodger) {
            if (town.hasLodger(lodger) && hasRoom(town, town.last[lodger])) {
                return town.last[lodger];
            }
            for (int bed = 0; bed < town.beds; bed++) {
                if (hasRoom(town, bed)) {
                    return bed;
                }
            }
            return NONE;
        }

        private int byRule(Town town, Rule rule, int lodger) {
            int best = NONE;
            long most = 0;
            for (int bed = 0; bed < town.beds; bed++) {
                if (hasRoom(town, bed)) {
                    long worth = worthOf(town, rule, lodger, bed);
                    if (worth > most) {
                        most = worth;
                        best = bed;
                    }
                }
            }
            return best;
        }

        private long worthOf(Town town, Rule rule, int lodger, int bed) {
            for (int i = 0; i < rule.clauses && i < Rule.CLAUSES_MOST; i++) {
                int testAt = rule.testAt[i];
                int behind = rule.sumAt[i + 1];
                if (testAt == behind || run(town, rule, testAt, behind, lodger, bed) != 0) {
                    return run(town, rule, rule.sumAt[i], testAt, lodger, bed);
                }
            }
            return 0;
        }

        private long run(Town town, Rule rule, int from, int behind, int lodger, int bed) {
            int top = 0;
            for (int i = Math.max(0, from); i < behind && i < Rule.STEPS_MOST; i++) {
                int kind = rule.kind[i];
                if (kind == Rule.NUMBER || kind == Rule.WORD) {
                    if (top >= STACK_MOST) {
                        return 0;
                    }
                    int value = rule.value[i];
                    stack[top] = kind == Rule.NUMBER ? value : wordOf(town, value, lodger, bed);
                    top++;
                } else if (kind == Rule.NOT && top > 0) {
                    stack[top - 1] = 1 - stack[top - 1];
                } else if (top > 1) {
                    top--;
                    stack[top - 1] = join(kind, stack[top - 1], stack[top]);
                }
            }
            return stack[0];
        }

        private static long join(int kind, long a, long b) {
            switch (kind) {
                case Rule.PLUS: return a + b;
                case Rule.MINUS: return a - b;
                case Rule.TIMES: return a * b;
                case Rule.PARTED: return b == 0 ? 0 : a / b;
                case Rule.REST: return b == 0 ? 0 : a % b;
                case Rule.LESS: return a < b ? 1 : 0;
                case Rule.LESS_OR_SAME: return a <= b ? 1 : 0;
                case Rule.SAME: return a == b ? 1 : 0;
                case Rule.MORE_OR_SAME: return a >= b ? 1 : 0;
                case Rule.MORE: return a > b ? 1 : 0;
                case Rule.AND: return a & b;
                case Rule.OR: return a | b;
                default: return 0;
            }
        }

        private long wordOf(Town town, int word, int lodger, int bed) {
            if (lodger < 0 || lodger >= LODGERS_MOST || bed < 0 || bed >= BEDS_MOST) {
                return 0;
            }
            int more = town.shape[lodger] - town.hollow[bed];
            switch (word) {
                case 0: return lodger;
                case 1: return bed;
                case 2: return town.shape[lodger];
                case 3: return town.body[lodger];
                case 4: return town.wants[lodger];
                case 5: return town.hollow[bed];
                case 6: return town.under[bed];
                case 7: return town.stuffing[bed];
                case 8: return town.room - lying[bed];
                case 9: return town.last[lodger] == bed ? 1 : 0;
                case 10: return more < 0 ? -more : more;
                case 11: return town.night;
                default: return 0;
            }
        }

        private void shapeAll(Town town) {
            for (int bed = 0; bed < town.beds && bed < BEDS_MOST; bed++) {
                nextHollow[bed] = town.hollowBehind(bed, onBed[bed]);
            }
            for (int i = 0; i < town.lodgers && i < LODGERS_MOST; i++) {
                town.shape[i] = town.shapeBehind(i, lies[i]);
                town.last[i] = lies[i];
                if (lies[i] != NONE) {
                    town.slept[i]++;
                }
            }
            for (int bed = 0; bed < town.beds && bed < BEDS_MOST; bed++) {
                town.hollow[bed] = nextHollow[bed];
            }
        }
    }

    /** What comes of going on by the RULE, all of it tried on a CITY of its own. */
    private static final class Foresight {
        static final int COMES_NIGHTS = 200;
        static final int SETTLED_NIGHTS = 60;
        static final int SEEN = LODGERS_MOST + BEDS_MOST;

        private final Nights nights;
        private final Town then = new Town();
        private final int[] begins = new int[(SETTLED_NIGHTS + 1) * SEEN];
        private final int[] answer = new int[3];
        private long x;

        Foresight(Nights nights) {
            this.nights = nights;
        }

        int told(int what) {
            return what >= 0 && what < answer.length ? answer[what] : NONE;
        }

        private void tell(int first, int second, int third) {
            answer[0] = first;
            answer[1] = second;
            answer[2] = third;
        }

        Town after(Town town, Rule rule, int n) {
            then.copyFrom(town);
            goOn(rule, n);
            return then;
        }

        private void goOn(Rule rule, int n) {
            for (int i = 0; i < n; i++) {
                nights.pass(then, rule, null);
            }
        }

        int firstNightOf(Town town, Rule rule, int lodger, int shape) {
            then.copyFrom(town);
            for (int i = 0; i < COMES_NIGHTS && then.hasLodger(lodger); i++) {
                if (then.shape[lodger] == shape) {
                    return then.night;
                }
                nights.pass(then, rule, null);
            }
            return NO_SUCH;
        }

        void findTurned(Town town, Rule rule, int n) {
            int which = NONE;
            int least = FARTHEST;
            for (int bed = NONE; bed < town.beds; bed++) {
                then.copyFrom(town);
                then.swapSides(bed);
                goOn(rule, n);
                if (then.farOfAll() < least) {
                    which = bed;
                    least = then.farOfAll();
                }
            }
            tell(which, least, NONE);
        }

        void findBest(Town town, Rule rule, int n) {
            int which = NONE;
            int least = FARTHEST;
            boolean uncardedTried = false;
            for (int card = 1; card <= CARD_MOST; card++) {
                // All CARDS that do not come due in these NIGHTS end alike: one of them is tried.
                boolean comesDue = card - 1 - town.night % card < n;
                if (!comesDue && uncardedTried) {
                    continue;
                }
                uncardedTried = uncardedTried || !comesDue;
                then.copyFrom(town);
                then.card = card;
                goOn(rule, n);
                if (then.farOfAll() < least) {
                    which = card;
                    least = then.farOfAll();
                }
            }
            tell(which, least, NONE);
        }

        void findTwins(Town town, Rule rule, int n) {
            then.copyFrom(town);
            goOn(rule, n);
            tell(0, NO_SUCH, NO_SUCH);
            for (int one = 0; one < then.lodgers && one < LODGERS_MOST; one++) {
                for (int other = one + 1; other < then.lodgers && other < LODGERS_MOST; other++) {
                    if (then.shape[one] == then.shape[other]) {
                        if (answer[0] == 0) {
                            tell(0, one, other);
                        }
                        answer[0]++;
                    }
                }
            }
        }

        void findSettled(Town town, Rule rule) {
            then.copyFrom(town);
            for (int i = 0; i <= SETTLED_NIGHTS; i++) {
                writeBegin(i);
                nights.pass(then, rule, null);
            }
            tell(NO_SUCH, NO_SUCH, NONE);
            for (int i = 0; i < SETTLED_NIGHTS; i++) {
                for (int later = i + 1; later <= SETTLED_NIGHTS; later++) {
                    if (sameBegins(i, later)) {
                        tell(town.night + i, later - i, NONE);
                        return;
                    }
                }
            }
        }

        private void writeBegin(int night) {
            int at = night * SEEN;
            if (at < 0 || at + SEEN > begins.length) {
                return;
            }
            for (int i = 0; i < LODGERS_MOST; i++) {
                begins[at + i] = i < then.lodgers ? then.shape[i] : 0;
            }
            for (int i = 0; i < BEDS_MOST; i++) {
                begins[at + LODGERS_MOST + i] = i < then.beds ? then.hollow[i] : 0;
            }
        }

        private boolean sameBegins(int one, int other) {
            if (one < 0 || other < 0 || Math.max(one, other) > SETTLED_NIGHTS) {
                return false;
            }
            for (int i = 0; i < SEEN; i++) {
                if (begins[one * SEEN + i] != begins[other * SEEN + i]) {
                    return false;
                }
            }
            return true;
        }

        /** Draws on a copy of x that goes on from one time to the next; x itself stays. */
        void findMays(Ledger ledger, Rule rule, int m, int n, int p) {
            int far = 0;
            int hollows = 0;
            x = ledger.x;
            for (int i = 0; i < m; i++) {
                then.copyFrom(ledger.town);
                goOnTurning(rule, n, p);
                far += then.farOfAll();
                hollows += then.hollowOfAll();
            }
            tell(far, hollows, NONE);
        }

        private void goOnTurning(Rule rule, int n, int p) {
            for (int i = 0; i < n; i++) {
                if (draw() % 100 < p && then.beds > 0) {
                    then.swapSides(draw() % then.beds);
                }
                nights.pass(then, rule, null);
            }
        }

        private int draw() {
            x = (x * 1103515245L + 12345L) % 2147483648L;
            return (int) (x / 65536L);
        }
    }

    /** What is best, or possible, where LODGERS may lie otherwise than by the RULE. */
    private static final class Choices {
        /** None, then each BED. */
        static final int PLACES = BEDS_MOST + 1;
        static final int TWOS = BEDS_MOST * BEDS_MOST;

        private final Nights nights;
        private final Town[] levels = new Town[ROW_NIGHTS_MOST + 1];
        private final int[] held = new int[LODGERS_MOST];
        private final int[] tried = new int[LODGERS_MOST];
        private final int[] answer = new int[LODGERS_MOST + 1];
        private final int[] farIf = new int[LODGERS_MOST * PLACES];
        private final int[] farLeast = new int[LODGERS_MOST + 1];
        private final int[] lying = new int[BEDS_MOST];
        private final int[] farOfOne = new int[TWOS];
        private final int[] farOfOther = new int[TWOS];

        Choices(Nights nights) {
            this.nights = nights;
            for (int i = 0; i <= ROW_NIGHTS_MOST; i++) {
                levels[i] = new Town();
            }
        }

        int told(int what) {
            return what >= 0 && what < answer.length ? answer[what] : NONE;
        }

        private void holdNobody() {
            for (int i = 0; i < LODGERS_MOST; i++) {
                held[i] = Nights.FREE;
            }
        }

        void findRow(Town town, Rule rule, int lodger, int n) {
            holdNobody();
            levels[0].copyFrom(town);
            answer[0] = FARTHEST;
            searchRow(rule, lodger, n, 0);
        }

        private void searchRow(Rule rule, int lodger, int n, int depth) {
            if (depth < 0 || depth > ROW_NIGHTS_MOST || lodger < 0 || lodger >= LODGERS_MOST) {
                return;
            }
            if (depth >= n || depth == ROW_NIGHTS_MOST) {
                keepIfLess(levels[depth].far(lodger), depth);
                return;
            }
            Town here = levels[depth];
            Town behind = levels[depth + 1];
            for (int bed = NONE; bed < here.beds; bed++) {
                behind.copyFrom(here);
                held[lodger] = bed;
                nights.pass(behind, rule, held);
                if (behind.last[lodger] == bed) {
                    tried[depth] = bed;
                    searchRow(rule, lodger, n, depth + 1);
                }
            }
        }

        /** Of rows that are equally good the first tried stays. */
        private void keepIfLess(int far, int many) {
            if (far >= answer[0]) {
                return;
            }
            answer[0] = far;
            for (int i = 0; i < many && i < LODGERS_MOST; i++) {
                answer[i + 1] = tried[i];
            }
        }

        /** (3) changes no SHAPE, so each LODGER's FAR hangs on their own BED alone. */
        void findTonight(Town town) {
            farLeast[LODGERS_MOST] = 0;
            for (int i = LODGERS_MOST - 1; i >= 0; i--) {
                farLeast[i] = farLeast[i + 1] + weighPlaces(town, i);
            }
            for (int i = 0; i < BEDS_MOST; i++) {
                lying[i] = 0;
            }
            answer[0] = FARTHEST;
            searchTonight(town, 0, 0);
        }

        private int weighPlaces(Town town, int lodger) {
            if (!town.hasLodger(lodger)) {
                return 0;
            }
            int least = FARTHEST;
            for (int place = 0; place <= town.beds && place < PLACES; place++) {
                int far = Math.abs(town.shapeBehind(lodger, place - 1) - town.wants[lodger]);
                farIf[lodger * PLACES + place] = far;
                least = Math.min(least, far);
            }
            return least;
        }

        private void searchTonight(Town town, int lodger, int far) {
            if (lodger < 0 || lodger > LODGERS_MOST || far + farLeast[lodger] >= answer[0]) {
                return;
            }
            if (lodger >= town.lodgers || lodger == LODGERS_MOST) {
                keepIfLess(far, lodger);
                return;
            }
            tried[lodger] = NONE;
            searchTonight(town, lodger + 1, far + farIf[lodger * PLACES]);
            for (int bed = 0; bed < town.beds && bed < BEDS_MOST; bed++) {
                if (lying[bed] < town.room) {
                    lying[bed]++;
                    tried[lodger] = bed;
                    searchTonight(town, lodger + 1, far + farIf[lodger * PLACES + bed + 1]);
                    lying[bed]--;
                }
            }
        }

        void findLain(Town town, int bed, int hollow) {
            int many = 0;
            int least = NO_SUCH;
            int inAll = NONE;
            for (int set = 0; set < 1 << Math.min(town.lodgers, LODGERS_MOST); set++) {
                if (Integer.bitCount(set) <= town.room && town.hollowBehind(bed, set) == hollow) {
                    least = many == 0 ? set : least;
                    inAll &= set;
                    many++;
                }
            }
            answer[0] = many;
            answer[1] = least;
            answer[2] = many == 0 ? 0 : inAll;
        }

        void findRests(Town town, Rule rule, int one, int other, int n) {
            answer[0] = 0;
            answer[1] = NO_SUCH;
            answer[2] = NO_SUCH;
            if (!town.hasLodger(one) || !town.hasLodger(other)) {
                return;
            }
            playAllTwos(town, rule, one, other, n);
            for (int a = 0; a < town.beds; a++) {
                for (int b = 0; b < town.beds; b++) {
                    if (isRest(a, b, town.beds)) {
                        if (answer[0] == 0) {
                            answer[1] = a;
                            answer[2] = b;
                        }
                        answer[0]++;
                    }
                }
            }
        }

        private void playAllTwos(Town town, Rule rule, int one, int other, int n) {
            Town then = levels[0];
            holdNobody();
            for (int a = 0; a < town.beds && a < BEDS_MOST; a++) {
                for (int b = 0; b < town.beds && b < BEDS_MOST; b++) {
                    held[one] = a;
                    held[other] = b;
                    then.copyFrom(town);
                    for (int i = 0; i < n; i++) {
                        nights.pass(then, rule, held);
                    }
                    farOfOne[a * BEDS_MOST + b] = then.far(one);
                    farOfOther[a * BEDS_MOST + b] = then.far(other);
                }
            }
        }

        private boolean isRest(int a, int b, int beds) {
            if (a < 0 || a >= BEDS_MOST || b < 0 || b >= BEDS_MOST) {
                return false;
            }
            int two = a * BEDS_MOST + b;
            for (int i = 0; i < beds && i < BEDS_MOST; i++) {
                if (farOfOne[i * BEDS_MOST + b] < farOfOne[two]
                    || farOfOther[a * BEDS_MOST + i] < farOfOther[two]) {
                    return false;
                }
            }
            return true;
        }
    }

    /** By which RULES, none among them, the NOTES can have come about. */
    private static final class Inquiry {
        static final int PLACES = BEDS_MOST + 1;

        private final Nights nights;
        private final Town then = new Town();
        private final int[] lay = new int[LODGERS_MOST];
        private final int[] alike = new int[LODGERS_MOST * PLACES];
        private final int[] answer = new int[2];

        Inquiry(Nights nights) {
            this.nights = nights;
        }

        int told(int what) {
            return what >= 0 && what < answer.length ? answer[what] : NONE;
        }

        void findRuled(Ledger ledger, Rule[] rules, int ruleCount) {
            answer[0] = 0;
            answer[1] = NO_SUCH;
            for (int i = NONE; i < ruleCount && i < rules.length; i++) {
                if (agrees(ledger, i < 0 ? null : rules[i], NONE)) {
                    if (answer[0] == 0) {
                        answer[1] = i;
                    }
                    answer[0]++;
                }
            }
        }

        void findLook(Ledger ledger, Rule[] rules, int ruleCount, int n) {
            for (int i = 0; i < LODGERS_MOST * PLACES; i++) {
                alike[i] = 0;
            }
            int many = 0;
            for (int i = NONE; i < ruleCount && i < rules.length; i++) {
                if (agrees(ledger, i < 0 ? null : rules[i], n)) {
                    many++;
                    countPlaces(ledger.told.lodgers);
                }
            }
            answer[0] = NO_SUCH;
            answer[1] = NO_SUCH;
            for (int i = 0; i < ledger.told.lodgers && many > 0; i++) {
                int most = mostAlike(i);
                if (answer[0] == NO_SUCH || most < answer[1]) {
                    answer[0] = i;
                    answer[1] = most;
                }
            }
        }

        /** Goes on from the begin by a RULE, as far as the NOTES go, and writes the n-th NIGHT. */
        private boolean agrees(Ledger ledger, Rule rule, int n) {
            int latest = Math.min(NOTE_NIGHT_MOST, Math.max(n, ledger.lastNotedNight()));
            then.copyFrom(ledger.told);
            for (int night = 0; night <= latest; night++) {
                nights.pass(then, rule, null);
                if (!ledger.agrees(then, night)) {
                    return false;
                }
                for (int i = 0; i < LODGERS_MOST && night == n; i++) {
                    lay[i] = then.last[i];
                }
            }
            return true;
        }

        private void countPlaces(int lodgers) {
            for (int i = 0; i < lodgers && i < LODGERS_MOST; i++) {
                int place = lay[i] + 1;
                if (place >= 0 && place < PLACES) {
                    alike[i * PLACES + place]++;
                }
            }
        }

        private int mostAlike(int lodger) {
            int most = 0;
            for (int i = 0; i < PLACES && lodger >= 0 && lodger < LODGERS_MOST; i++) {
                most = Math.max(most, alike[lodger * PLACES + i]);
            }
            return most;
        }
    }
}
