import java.util.Arrays;

/** One was told, and both know it: the class that ../shared/DOC.md promises. */
public final class BothKnow {
    public static final int NONE = -1;

    private static final int NO_SUCH = -2;
    private static final int BAD_NUMBER = -3;
    private static final int WRONG_SIZE = -4;
    private static final int NOT_NOW = -5;
    private static final int NO_TRAY = -6;
    private static final int NO_PLACE = -7;
    private static final int WHY_NOT = -10;
    private static final int FAULTY = -30;

    private static final int TWINS = 2;
    private static final int MOST_FACTS = 4;
    private static final int MOST_DOINGS = 6;
    private static final int OLDEST = 3;
    private static final int BONDS = 10;
    private static final int TAPE_LENGTH = 900;
    private static final int MOST_NUMBERS = 40;
    private static final int MOST_UNDONE = 10;
    private static final int MOST_DAYS = 99;
    private static final int MOST_TIMES = 40;
    private static final int LONGEST_ROW = 12;
    private static final int MOST_TOLD = 10;
    private static final int MOST_TRIED = 12;
    private static final int MOST_TURNS = 6;
    private static final int MOST_DRAWS = 4;
    private static final int DAY_AS_ANSWER = 99;
    private static final int DAY_AS_DEED = -1;

    private final byte[] tape = new byte[TAPE_LENGTH];
    private int taped;
    private final House[] pool = new House[4];
    private House home = new House();
    private final Reader reader = new Reader(home);
    private final Stand now = new Stand();
    private final Stand trial = new Stand();
    private final Past past = new Past();
    private final Tray[] trays = new Tray[4];
    private final House[] imagedHomes = new House[2];
    private final Stand[] imagedStands = new Stand[2];
    private final Search search = new Search(home);
    private final Search limited = new Search(home);
    private final RowCount rowCount = new RowCount(home);
    private final Duel duel = new Duel(home);
    private final Draws draws = new Draws(home);
    private final Witness witness = new Witness(home);

    public BothKnow() {
        pool[0] = home;
        for (int k = 0; k < trays.length; k++) {
            trays[k] = new Tray();
        }
        for (int k = 0; k < imagedStands.length; k++) {
            imagedStands[k] = new Stand();
        }
    }

    // ---- the house

    public int feed(int a, int b, int c, int d, int e) {
        if (taped + 20 > TAPE_LENGTH) {
            return NOT_NOW;
        }
        tapeInt(a);
        tapeInt(b);
        tapeInt(c);
        tapeInt(d);
        tapeInt(e);
        return taped;
    }

    private void tapeInt(int word) {
        for (int shift = 24; shift >= 0 && taped < TAPE_LENGTH; shift -= 8) {
            tape[taped] = (byte) (word >> shift);
            taped++;
        }
    }

    public int house(int n) {
        if (n < 0 || n > taped) {
            return BAD_NUMBER;
        }
        taped = 0;
        // A spare house may be one that a search still remembers.
        search.drop();
        limited.drop();
        House draft = spareHouse();
        if (!reader.reads(tape, n, draft)) {
            return FAULTY - reader.fault;
        }
        home = draft;
        now.ages = draft.startAges;
        now.bond = draft.startBond;
        past.clear();
        return home.lines;
    }

    /** A house that neither stands now nor in an image: of four one is always free. */
    private House spareHouse() {
        for (int k = 0; k < pool.length; k++) {
            if (pool[k] == null) {
                pool[k] = new House();
            }
            if (!isInUse(pool[k])) {
                return pool[k];
            }
        }
        return new House();
    }

    private boolean isInUse(House one) {
        for (int k = 0; k < imagedHomes.length; k++) {
            if (imagedHomes[k] == one) {
                return true;
            }
        }
        return home == one;
    }

    public int fault(int what) {
        if (what == 0) {
            return reader.fault;
        }
        return what == 1 ? reader.place : NONE;
    }

    public int age(int twin, int fact) {
        if (noTwin(twin) || noFact(fact)) {
            return NO_SUCH;
        }
        return House.ageIn(now.ages, twin, fact);
    }

    public int doing(int d, int what) {
        if (noDoing(d)) {
            return NO_SUCH;
        }
        if (what == 0) {
            return home.needBits(d);
        }
        if (what == 1) {
            return home.butBits(d);
        }
        if (what == 2) {
            return (home.doneBy(now.ages, 0) >> d & 1) | (home.doneBy(now.ages, 1) >> d & 1) << 1;
        }
        if (what < 10 || noFact(what - 10)) {
            return NO_SUCH;
        }
        return home.needOf(d, what - 10);
    }

    public int does(int twin) {
        return noTwin(twin) ? NO_SUCH : home.doneBy(now.ages, twin);
    }

    public int brings(int twin, int fact, int what) {
        if (noTwin(twin) || noFact(fact) || noTwin(what)) {
            return NO_SUCH;
        }
        int next = home.afterTelling(now.ages, now.bond, twin, fact);
        return next < 0 ? NOT_NOW : House.ageIn(next, what, fact);
    }

    private boolean noTwin(int twin) {
        return twin < 0 || twin >= TWINS;
    }

    private boolean noFact(int fact) {
        return fact < 0 || fact >= home.facts;
    }

    private boolean noDoing(int d) {
        return d < 0 || d >= home.doings;
    }

    private boolean noTray(int tray) {
        return tray < 0 || tray >= trays.length;
    }

    private boolean noSet(int set) {
        return (set & -(1 << home.doings)) != 0;
    }

    // ---- deeds

    public int tell(int twin, int fact) {
        trial.copy(now);
        int why = trial.telling(home, twin, fact);
        if (why != 0) {
            return WHY_NOT - why;
        }
        takeTrial();
        return House.ageIn(now.ages, 1 - twin, fact);
    }

    public int days(int n) {
        if (n < 1 || n > MOST_DAYS) {
            return BAD_NUMBER;
        }
        trial.copy(now);
        for (int k = 0; k < n; k++) {
            trial.ages = House.afterDay(trial.ages);
        }
        takeTrial();
        return home.doneByBoth(now.ages);
    }

    public int forget(int twin, int fact) {
        trial.copy(now);
        int why = trial.forgetting(home, twin, fact);
        if (why != 0) {
            return WHY_NOT - why;
        }
        int was = House.ageIn(now.ages, twin, fact);
        takeTrial();
        return was;
    }

    public int bond(int n) {
        trial.copy(now);
        int why = trial.bonding(n);
        if (why != 0) {
            return WHY_NOT - why;
        }
        int was = now.bond;
        takeTrial();
        return was;
    }

    /** The trial becomes what is, and can be undone as one call. */
    private void takeTrial() {
        past.keep(now);
        now.copy(trial);
    }

    public int undo(int n) {
        if (n < 1 || n > past.kept) {
            return BAD_NUMBER;
        }
        past.bringBack(n, now);
        return past.kept;
    }

    public int judge(int tray, int what) {
        if (noTray(tray) || what < 0 || what > 3) {
            return NO_SUCH;
        }
        if (trays[tray].isMissing()) {
            return NO_TRAY;
        }
        trial.copy(now);
        int done = trial.deeds(home, trays[tray]);
        if (what == 0) {
            return trial.why == 0 ? NONE : done;
        }
        return what == 1 ? trial.why : home.doneBy(trial.ages, what - 2);
    }

    public int perform(int tray) {
        if (noTray(tray)) {
            return NO_SUCH;
        }
        if (trays[tray].isMissing()) {
            return NO_TRAY;
        }
        trial.copy(now);
        int done = trial.deeds(home, trays[tray]);
        if (done > 0) {
            takeTrial();
        }
        return done;
    }

    public int year(int seed, int times) {
        if (times < 1 || times > MOST_TIMES) {
            return BAD_NUMBER;
        }
        trial.copy(now);
        int done = trial.drawnDeeds(home, seed, times);
        if (done > 0) {
            takeTrial();
        }
        return done;
    }

    // ---- coming

    public int soonest(int first, int second) {
        if (noSet(first) || noSet(second)) {
            return BAD_NUMBER;
        }
        int end = endOfComing(first, second);
        return end < 0 ? NONE : search.stepsTo(end);
    }

    public int way(int first, int second, int i) {
        if (noSet(first) || noSet(second) || i < 0) {
            return BAD_NUMBER;
        }
        return answerOf(endOfComing(first, second), i);
    }

    public int alone(int twin, int d) {
        if (noTwin(twin) || noDoing(d)) {
            return NO_SUCH;
        }
        int end = endOfAlone(twin, d);
        return end < 0 ? NONE : search.stepsTo(end);
    }

    public int aloneWay(int twin, int d, int i) {
        if (noTwin(twin) || noDoing(d)) {
            return NO_SUCH;
        }
        if (i < 0) {
            return BAD_NUMBER;
        }
        return answerOf(endOfAlone(twin, d), i);
    }

    /** The place in the search of the first of the shortest rows to a goal, or NONE. */
    private int endOfComing(int first, int second) {
        search.begin(home, now, NONE, NONE);
        return search.firstAtGoal(first, second);
    }

    private int endOfAlone(int twin, int d) {
        search.begin(home, now, NONE, NONE);
        return search.firstAlone(twin, d);
    }

    private int answerOf(int end, int i) {
        if (end < 0 || i >= search.stepsTo(end)) {
            return NONE;
        }
        int move = search.stepAt(end, i);
        return move == Search.DAY ? DAY_AS_ANSWER : move;
    }

    public long rows(int first, int second, int n) {
        if (noSet(first) || noSet(second) || n < 0 || n > LONGEST_ROW) {
            return BAD_NUMBER;
        }
        rowCount.begin(home, now);
        for (int k = 0; k < n; k++) {
            rowCount.lengthen();
        }
        return rowCount.atGoal(first, second);
    }

    public int needed(int first, int second) {
        if (noSet(first) || noSet(second)) {
            return BAD_NUMBER;
        }
        if (endOfComing(first, second) < 0) {
            return 0;
        }
        int bits = 0;
        for (int fact = 0; fact < home.facts; fact++) {
            limited.begin(home, now, NONE, fact);
            if (limited.firstAtGoal(first, second) < 0) {
                bits |= 1 << fact;
            }
        }
        return bits;
    }

    public int tellings(int first, int second) {
        if (noSet(first) || noSet(second)) {
            return BAD_NUMBER;
        }
        int fewest = limited.fewestTellings(home, now, first, second);
        // What it found isn't in the order of rows, so no later call may go on from it.
        limited.drop();
        return fewest;
    }

    // ---- what can be

    public int can(int twin) {
        if (noTwin(twin)) {
            return NO_SUCH;
        }
        search.begin(home, now, NONE, NONE);
        int found = search.findAll();
        int bits = 0;
        for (int k = 0; k < found; k++) {
            bits |= home.doneBy(search.agesOf(k), twin);
        }
        return bits;
    }

    public int stands() {
        search.begin(home, now, NONE, NONE);
        return search.findAll();
    }

    public int most() {
        search.begin(home, now, NONE, NONE);
        int found = search.findAll();
        int greatest = 0;
        for (int k = 0; k < found; k++) {
            greatest = Math.max(greatest, home.doneByBoth(search.agesOf(k)));
        }
        return greatest;
    }

    public int secret(int fact) {
        if (noFact(fact)) {
            return NO_SUCH;
        }
        int bits = 0;
        for (int twin = 0; twin < TWINS; twin++) {
            int next = home.afterTelling(now.ages, now.bond, twin, fact);
            if (next >= 0 && House.ageIn(next, 1 - twin, fact) == 0) {
                bits |= 1 << twin;
            }
        }
        return bits;
    }

    public int overhears(int twin) {
        if (noTwin(twin)) {
            return NO_SUCH;
        }
        limited.begin(home, now, twin, NONE);
        int found = limited.findAll();
        int known = 0;
        for (int k = 0; k < found; k++) {
            known |= home.knownBits(limited.agesOf(k), twin);
        }
        return known & ~home.knownBits(now.ages, twin);
    }

    // ---- who was told

    public int told(int tray, int first, int second) {
        int refusal = refusalOfTold(tray, first, second);
        if (refusal != 0) {
            return refusal;
        }
        witness.ask(home, now, trays[tray], first, second);
        return witness.found;
    }

    public int whom(int tray, int first, int second, int i) {
        int refusal = refusalOfTold(tray, first, second);
        if (refusal != 0) {
            return refusal;
        }
        if (i < 0) {
            return BAD_NUMBER;
        }
        witness.ask(home, now, trays[tray], first, second);
        if (witness.found == 0 || i >= trays[tray].size) {
            return NONE;
        }
        return witness.firstRow >> i & 1;
    }

    public int surely(int tray, int first, int second, int what) {
        if (noTwin(what)) {
            return NO_SUCH;
        }
        int refusal = refusalOfTold(tray, first, second);
        if (refusal != 0) {
            return refusal;
        }
        witness.ask(home, now, trays[tray], first, second);
        return what == 0 ? witness.alwaysFirst : witness.alwaysSecond;
    }

    private int refusalOfTold(int tray, int first, int second) {
        if (noTray(tray)) {
            return NO_SUCH;
        }
        Tray facts = trays[tray];
        if (facts.isMissing()) {
            return NO_TRAY;
        }
        if (facts.size < 1 || facts.size > MOST_TOLD) {
            return WRONG_SIZE;
        }
        for (int k = 0; k < facts.size; k++) {
            if (facts.at(k) < 0 || facts.at(k) >= home.facts) {
                return BAD_NUMBER;
            }
        }
        return noSet(first) || noSet(second) ? BAD_NUMBER : 0;
    }

    // ---- bonds

    public int bonds(int tray, int first, int second) {
        int refusal = refusalOfBonds(tray, first, second);
        return refusal != 0 ? refusal : bondBits(trays[tray], first, second);
    }

    public int attempt(int tray, int first, int second) {
        int refusal = refusalOfBonds(tray, first, second);
        if (refusal != 0) {
            return refusal;
        }
        int bits = bondBits(trays[tray], first, second);
        return bits == 0 ? NONE : tellingNext(bits);
    }

    private int refusalOfBonds(int tray, int first, int second) {
        if (noTray(tray)) {
            return NO_SUCH;
        }
        Tray deeds = trays[tray];
        if (deeds.isMissing()) {
            return NO_TRAY;
        }
        if (deeds.size < 1 || deeds.size > MOST_TRIED) {
            return WRONG_SIZE;
        }
        for (int k = 0; k < deeds.size; k++) {
            if (!isTellingOrDay(deeds.at(k))) {
                return BAD_NUMBER;
            }
        }
        return noSet(first) || noSet(second) ? BAD_NUMBER : 0;
    }

    private boolean isTellingOrDay(long deed) {
        return deed == DAY_AS_DEED || deed >= 0 && deed < 10 * TWINS && deed % 10 < home.facts;
    }

    private int bondBits(Tray deeds, int first, int second) {
        int bits = 0;
        for (int bond = 0; bond < BONDS; bond++) {
            trial.copy(now);
            trial.bond = bond;
            trial.deeds(home, deeds);
            if (trial.why == 0 && home.doJust(trial.ages, first, second)) {
                bits |= 1 << bond;
            }
        }
        return bits;
    }

    private int tellingNext(int bondBits) {
        int deed = NONE;
        int least = BONDS + 1;
        for (int twin = 0; twin < TWINS; twin++) {
            for (int fact = 0; fact < home.facts; fact++) {
                if (home.afterTelling(now.ages, now.bond, twin, fact) >= 0) {
                    int left = mostLeft(bondBits, twin, fact);
                    if (left < least) {
                        least = left;
                        deed = 10 * twin + fact;
                    }
                }
            }
        }
        return deed;
    }

    /** How many of the bonds a telling leaves at worst, the other one's age then being seen. */
    private int mostLeft(int bondBits, int twin, int fact) {
        int greatest = 0;
        for (int age = 0; age <= OLDEST; age++) {
            int like = 0;
            for (int bond = 0; bond < BONDS; bond++) {
                if ((bondBits >> bond & 1) != 0) {
                    int next = home.afterTelling(now.ages, bond, twin, fact);
                    if (next >= 0 && House.ageIn(next, 1 - twin, fact) == age) {
                        like++;
                    }
                }
            }
            greatest = Math.max(greatest, like);
        }
        return greatest;
    }

    // ---- forcing

    public int forces(int twin, int d) {
        if (noTwin(twin) || noDoing(d)) {
            return NO_SUCH;
        }
        duel.begin(home, now.bond, twin, d);
        return duel.fewestTurns(now.ages);
    }

    public int best(int twin, int d) {
        if (noTwin(twin) || noDoing(d)) {
            return NO_SUCH;
        }
        duel.begin(home, now.bond, twin, d);
        int turns = duel.fewestTurns(now.ages);
        return turns <= 0 ? NONE : duel.firstMove(now.ages, turns);
    }

    // ---- chances

    public int chance(int twin, int d, int n, int what) {
        if (noTwin(twin) || noDoing(d) || what < 0 || what > 1) {
            return NO_SUCH;
        }
        if (n < 0 || n > MOST_DRAWS) {
            return BAD_NUMBER;
        }
        draws.ask(home, now, twin, n);
        int divisor = greatestDivisor(draws.hitsOf(d), draws.all);
        if (divisor == 0) {
            return NONE;
        }
        return (what == 0 ? draws.hitsOf(d) : draws.all) / divisor;
    }

    private static int greatestDivisor(int a, int b) {
        int x = a;
        int y = b;
        // Each round at least halves x times y, so that ints end long before a hundred.
        for (int k = 0; k < 100 && y != 0; k++) {
            int rest = x % y;
            x = y;
            y = rest;
        }
        return x;
    }

    public int likeliest(int twin, int n) {
        if (noTwin(twin)) {
            return NO_SUCH;
        }
        if (n < 0 || n > MOST_DRAWS) {
            return BAD_NUMBER;
        }
        draws.ask(home, now, twin, n);
        int likely = NONE;
        int greatest = -1;
        for (int d = 0; d < home.doings; d++) {
            if (draws.hitsOf(d) > greatest) {
                greatest = draws.hitsOf(d);
                likely = d;
            }
        }
        return likely;
    }

    // ---- trays, images

    public int numbers(int tray, int sort, int n) {
        if (noTray(tray) || sort < 0 || sort > 3) {
            return NO_SUCH;
        }
        if (n < 0 || n > MOST_NUMBERS) {
            return BAD_NUMBER;
        }
        trays[tray].lay(sort, n);
        return 0;
    }

    public long write(int tray, int i, long v) {
        if (noTray(tray)) {
            return NO_SUCH;
        }
        if (trays[tray].isMissing()) {
            return NO_TRAY;
        }
        if (i < 0 || i >= trays[tray].size) {
            return NO_PLACE;
        }
        trays[tray].put(i, v);
        return trays[tray].at(i);
    }

    public int lists(int tray, int first, int second) {
        if (noTray(tray)) {
            return NO_SUCH;
        }
        Tray into = trays[tray];
        if (into.isMissing()) {
            return NO_TRAY;
        }
        if (noSet(first) || noSet(second)) {
            return BAD_NUMBER;
        }
        int end = endOfComing(first, second);
        if (end < 0) {
            return NOT_NOW;
        }
        int listed = Math.min(into.size, search.stepsTo(end));
        for (int k = 0; k < listed; k++) {
            int move = search.stepAt(end, k);
            into.put(k, move == Search.DAY ? DAY_AS_DEED : move);
        }
        return listed;
    }

    public int image(int i) {
        if (noImage(i)) {
            return NO_SUCH;
        }
        imagedHomes[i] = home;
        imagedStands[i].copy(now);
        return 0;
    }

    public int restore(int i) {
        if (noImage(i)) {
            return NO_SUCH;
        }
        House old = imagedHomes[i];
        if (old == null) {
            return NOT_NOW;
        }
        home = old;
        now.copy(imagedStands[i]);
        past.clear();
        return 0;
    }

    private boolean noImage(int i) {
        return i < 0 || i >= imagedHomes.length || i >= imagedStands.length;
    }

    public int count(int what) {
        switch (what) {
            case 0:
                return home.facts;
            case 1:
                return home.doings;
            case 2:
                return House.knownTo(now.ages, 0);
            case 3:
                return House.knownTo(now.ages, 1);
            case 4:
                return now.bond;
            case 5:
                return home.doneByBoth(now.ages);
            case 6:
                return past.kept;
            case 7:
                return taped;
            case 8:
                return home.lines;
            default:
                return NONE;
        }
    }

    /**
     * A house that was read. Ages of all are one number of 16 bits: four bits a fact, the lower two
     * for twin 0, so that a house of few facts has small numbers and needs small rows for a search.
     * Tellings and days never lessen an age, so neither do they lessen that number.
     */
    private static final class House {
        private static final int CROWDS = MOST_FACTS + 1;
        private static final int CASES = TWINS * CROWDS * CROWDS * MOST_FACTS;

        int facts;
        int doings;
        int lines;
        int startBond;
        int startAges;
        private final int[] kinds = new int[MOST_FACTS];
        private final int[] needs = new int[MOST_DOINGS * MOST_FACTS];
        private final int[] buts = new int[MOST_DOINGS];
        private final int[] doneBits = new int[1 << 2 * MOST_FACTS];
        // What both laws say hangs on so few things that all cases are kept.
        private final int[] comings = new int[BONDS * CASES];

        void clear() {
            facts = 0;
            doings = 0;
            lines = 0;
            startBond = 0;
            startAges = 0;
            Arrays.fill(kinds, 0);
            Arrays.fill(needs, 0);
            Arrays.fill(buts, 0);
        }

        void setKind(int fact, int kind) {
            if (fact >= 0 && fact < MOST_FACTS) {
                kinds[fact] = kind;
            }
        }

        int kindOf(int fact) {
            return fact >= 0 && fact < MOST_FACTS ? kinds[fact] : 0;
        }

        void setNeed(int d, int fact, int age) {
            if (isPlace(d, fact)) {
                needs[d * MOST_FACTS + fact] = age;
                buts[d] &= ~(1 << fact);
            }
        }

        void setBut(int d, int fact) {
            if (isPlace(d, fact)) {
                needs[d * MOST_FACTS + fact] = 0;
                buts[d] |= 1 << fact;
            }
        }

        private static boolean isPlace(int d, int fact) {
            return d >= 0 && d < MOST_DOINGS && fact >= 0 && fact < MOST_FACTS;
        }

        void setStart(int twin, int fact, int age) {
            startAges = startAges & ~(3 << 4 * fact + 2 * twin) | age << 4 * fact + 2 * twin;
        }

        int needOf(int d, int fact) {
            return isPlace(d, fact) ? needs[d * MOST_FACTS + fact] : 0;
        }

        int needBits(int d) {
            int bits = 0;
            for (int fact = 0; fact < facts; fact++) {
                if (needOf(d, fact) > 0) {
                    bits |= 1 << fact;
                }
            }
            return bits;
        }

        int butBits(int d) {
            return d >= 0 && d < MOST_DOINGS ? buts[d] : 0;
        }

        /** In how many ways the ages of all could be written, known or not. */
        int room() {
            return 1 << 4 * facts;
        }

        /** Where what both laws say of a twin's fact 0 is kept; the other facts are behind it. */
        static int caseOf(int bond, int twin, int known, int theirs) {
            return bond * CASES + ((twin * CROWDS + known) * CROWDS + theirs) * MOST_FACTS;
        }

        int caseAt(int ages, int bond, int twin) {
            return caseOf(bond, twin, knownTo(ages, twin), knownTo(ages, 1 - twin));
        }

        void setComing(int place, int coming) {
            if (place >= 0 && place < comings.length) {
                comings[place] = coming;
            }
        }

        /** Which doings are done is kept for each way in which the ages of one twin can be. */
        void weighDoings() {
            for (int own = 0; own < 1 << 2 * facts && own < doneBits.length; own++) {
                int bits = 0;
                for (int d = 0; d < doings; d++) {
                    if (isDone(d, own)) {
                        bits |= 1 << d;
                    }
                }
                doneBits[own] = bits;
            }
        }

        private boolean isDone(int d, int own) {
            for (int fact = 0; fact < facts; fact++) {
                int age = own >> 2 * fact & 3;
                if (age < needOf(d, fact) || age > 0 && (butBits(d) >> fact & 1) != 0) {
                    return false;
                }
            }
            return true;
        }

        static int ageIn(int ages, int twin, int fact) {
            return ages >> 4 * fact + 2 * twin & 3;
        }

        static int knownTo(int ages, int twin) {
            int own = ages >> 2 * twin & 0x3333;
            int known = (own | own >> 1) & 0x1111;
            // Four bits a fact, of which the lowest alone can be set: the product adds them up there.
            return known * 0x1111 >> 12 & 7;
        }

        int knownBits(int ages, int twin) {
            int bits = 0;
            for (int fact = 0; fact < facts; fact++) {
                if (ageIn(ages, twin, fact) > 0) {
                    bits |= 1 << fact;
                }
            }
            return bits;
        }

        int doneBy(int ages, int twin) {
            int own = ages >> 2 * twin & 0x3333;
            own = (own | own >> 2) & 0x0F0F;
            own = (own | own >> 4) & 0xFF;
            return own < doneBits.length ? doneBits[own] : 0;
        }

        int doneByBoth(int ages) {
            return Integer.bitCount(doneBy(ages, 0)) + Integer.bitCount(doneBy(ages, 1));
        }

        boolean doAtLeast(int ages, int first, int second) {
            return (doneBy(ages, 0) & first) == first && (doneBy(ages, 1) & second) == second;
        }

        boolean doJust(int ages, int first, int second) {
            return doneBy(ages, 0) == first && doneBy(ages, 1) == second;
        }

        /** The ages behind a telling, or NONE where the law may forbids it. */
        int afterTelling(int ages, int bond, int twin, int fact) {
            return afterCase(ages, caseAt(ages, bond, twin), twin, fact);
        }

        /** The same, for those who tell several facts at the same ages. */
        int afterCase(int ages, int place, int twin, int fact) {
            int k = place + fact;
            int coming = k >= 0 && k < comings.length ? comings[k] : NONE;
            if (coming < 0) {
                return NONE;
            }
            int next = ages;
            if (ageIn(ages, twin, fact) == 0) {
                next |= 1 << 4 * fact + 2 * twin;
            }
            int more = coming - ageIn(ages, 1 - twin, fact);
            return more > 0 ? next + (more << 4 * fact + 2 * (1 - twin)) : next;
        }

        static int afterDay(int ages) {
            int low = ages & 0x5555;
            int high = ages >> 1 & 0x5555;
            return high | (low | high) << 1;
        }
    }

    /** Both laws of the text that is read, as rows of steps on a pile, the later ones behind. */
    private static final class Laws {
        static final int TWIN = 0;
        static final int FACT = 1;
        static final int KIND = 2;
        static final int KNOWN = 3;
        static final int THEIRS = 4;
        static final int BOND = 5;
        static final int PLUS = 6;
        static final int MINUS = 7;
        static final int TIMES = 8;
        static final int LIKE = 9;
        static final int BELOW = 10;
        static final int ABOVE = 11;
        static final int AND = 12;
        static final int OR = 13;
        static final int NOT = 14;
        static final int CHOICE = 15;
        static final int NUMBER = 100;
        private static final long FARTHEST = 1000000;
        private static final int COMING_WITHOUT_LAW = 2;

        private final int[] steps = new int[TAPE_LENGTH];
        int size;
        private int comesFrom;
        private int comesTo;
        private int mayFrom;
        private int mayTo;
        private final int[] named = new int[6];
        // Six brackets within one another hold back some fifty numbers at most.
        private final int[] pile = new int[100];
        private int top;

        void clear() {
            size = 0;
            comesFrom = 0;
            comesTo = 0;
            mayFrom = 0;
            mayTo = 0;
        }

        void add(int step) {
            if (size < steps.length) {
                steps[size] = step;
                size++;
            }
        }

        void setComes(int from) {
            comesFrom = from;
            comesTo = size;
        }

        void setMay(int from) {
            mayFrom = from;
            mayTo = size;
        }

        /** All cases of both laws come into a house whose facts are all told. */
        void weigh(House house) {
            for (int twin = 0; twin < TWINS; twin++) {
                for (int fact = 0; fact < house.facts; fact++) {
                    named[TWIN] = twin;
                    named[FACT] = fact;
                    named[KIND] = house.kindOf(fact);
                    for (int known = 0; known <= house.facts; known++) {
                        for (int theirs = 0; theirs <= house.facts; theirs++) {
                            named[KNOWN] = known;
                            named[THEIRS] = theirs;
                            weighBonds(house);
                        }
                    }
                }
            }
        }

        private void weighBonds(House house) {
            boolean mayBe = mayTo == mayFrom || value(mayFrom, mayTo) != 0;
            int coming = mayBe ? COMING_WITHOUT_LAW : NONE;
            for (int bond = 0; bond < BONDS; bond++) {
                if (mayBe && comesTo > comesFrom && (bond == 0 || namesBond())) {
                    named[BOND] = bond;
                    coming = Math.max(0, Math.min(OLDEST, value(comesFrom, comesTo)));
                }
                int place = House.caseOf(bond, named[TWIN], named[KNOWN], named[THEIRS]);
                house.setComing(place + named[FACT], coming);
            }
        }

        private boolean namesBond() {
            for (int k = comesFrom; k < comesTo && k < steps.length; k++) {
                if (steps[k] == BOND) {
                    return true;
                }
            }
            return false;
        }

        private int value(int from, int to) {
            top = 0;
            for (int k = from; k < to && k < steps.length; k++) {
                step(steps[k]);
            }
            return pop();
        }

        private void step(int step) {
            if (step >= NUMBER) {
                push(step - NUMBER);
            } else if (step >= 0 && step < named.length) {
                push(named[step]);
            } else if (step == NOT) {
                push(pop() == 0 ? 1 : 0);
            } else if (step == CHOICE) {
                int otherwise = pop();
                int then = pop();
                push(pop() != 0 ? then : otherwise);
            } else {
                int right = pop();
                push(kept(joined(step, pop(), right)));
            }
        }

        private static long joined(int step, long left, long right) {
            switch (step) {
                case PLUS:
                    return left + right;
                case MINUS:
                    return left - right;
                case TIMES:
                    return left * right;
                case LIKE:
                    return left == right ? 1 : 0;
                case BELOW:
                    return left < right ? 1 : 0;
                case ABOVE:
                    return left > right ? 1 : 0;
                case AND:
                    return left & right;
                default:
                    return left | right;
            }
        }

        private static int kept(long v) {
            return (int) Math.max(-FARTHEST, Math.min(FARTHEST, v));
        }

        private void push(int v) {
            if (top < pile.length) {
                pile[top] = v;
                top++;
            }
        }

        private int pop() {
            if (top <= 0) {
                return 0;
            }
            top--;
            return pile[top];
        }
    }

    /** Reads a text, token by token, into a house; the first fault along the text ends it. */
    private static final class Reader {
        private static final int NO_TOKEN = 1;
        private static final int NOT_HERE = 2;
        private static final int OUT_OF_BOUNDS = 3;
        private static final int ONE_TOO_MANY = 4;

        // Signs are tokens by their own bytes, 40 to 93; these stand beside them.
        private static final int END = 0;
        private static final int BAD = 1;
        private static final int NUMBER = 2;
        private static final int OTHER_WORD = 3;
        private static final int HOUSE = 200;
        private static final int FACT = 201;
        private static final int DOING = 202;
        private static final int BOND = 203;
        private static final int KNOWS = 204;
        private static final int COMES = 205;
        private static final int MAY = 206;
        private static final int KIND = 207;
        private static final int NEEDS = 208;
        private static final int AGE = 209;
        private static final int BUT = 210;
        private static final int IF = 211;
        private static final int THEN = 212;
        private static final int ELSE = 213;
        private static final int ENDS = 214;
        private static final int TWIN = 215;
        private static final int KNOWN = 216;
        private static final int THEIRS = 217;
        private static final int OR = 218;
        private static final int AND = 219;
        private static final int NOT = 220;
        // In the order of their tokens, a blank behind each.
        private static final String WORDS =
            "house fact doing bond knows comes may kind needs age but if then else end twin known theirs or and not ";
        private static final String SIGNS = ";:+-*()[]=<>";
        private static final int DEEPEST = 6;
        private static final int MOST_DIGITS = 3;

        int fault;
        int place = NONE;
        private byte[] text = new byte[0];
        private int length;
        private int at;
        private int behind;
        private int token;
        private int number;
        private House draft;
        private final Laws laws = new Laws();
        private boolean inMay;

        Reader(House any) {
            draft = any;
        }

        boolean reads(byte[] bytes, int n, House into) {
            text = bytes;
            length = Math.min(n, bytes.length);
            fault = 0;
            place = NONE;
            behind = 0;
            draft = into;
            draft.clear();
            laws.clear();
            advance();
            take(HOUSE);
            take(';');
            draft.lines = 1;
            for (int k = 0; k < length && fault == 0 && token != END; k++) {
                line();
            }
            if (fault == 0) {
                draft.weighDoings();
                laws.weigh(draft);
            }
            return fault == 0;
        }

        private void fail(int kind) {
            if (fault == 0) {
                fault = kind;
                place = at;
            }
            token = BAD;
        }

        private void take(int wanted) {
            if (token == wanted) {
                advance();
            } else {
                fail(NOT_HERE);
            }
        }

        private int takeNumber(int low, int high) {
            if (token != NUMBER) {
                fail(NOT_HERE);
                return 0;
            }
            if (number < low || number > high) {
                fail(OUT_OF_BOUNDS);
                return 0;
            }
            int taken = number;
            advance();
            return taken;
        }

        private void advance() {
            int k = behind;
            while (k < length && (text[k] == 10 || text[k] == 32)) {
                k++;
            }
            at = k;
            behind = k;
            token = END;
            if (k < length) {
                int sign = text[k];
                if (sign >= 'a' && sign <= 'z') {
                    readWord();
                } else if (sign >= '0' && sign <= '9') {
                    readDigits();
                } else {
                    behind = k + 1;
                    token = SIGNS.indexOf((char) (sign & 255)) >= 0 ? sign : BAD;
                }
            }
            if (token == BAD) {
                fail(NO_TOKEN);
            }
        }

        private void readWord() {
            while (behind < length && text[behind] >= 'a' && text[behind] <= 'z') {
                behind++;
            }
            token = OTHER_WORD;
            int word = HOUSE;
            int next = at;
            boolean same = true;
            for (int k = 0; k < WORDS.length() && token == OTHER_WORD; k++) {
                int letter = WORDS.charAt(k);
                if (letter != ' ') {
                    same = same && next < behind && text[next] == letter;
                    next++;
                } else if (same && next == behind) {
                    token = word;
                } else {
                    word++;
                    next = at;
                    same = true;
                }
            }
        }

        private void readDigits() {
            number = 0;
            while (behind < length && text[behind] >= '0' && text[behind] <= '9') {
                number = 10 * number + text[behind] - '0';
                behind++;
            }
            token = behind - at > MOST_DIGITS ? BAD : NUMBER;
        }

        private void line() {
            switch (token) {
                case FACT:
                    factLine();
                    break;
                case DOING:
                    doingLine();
                    break;
                case BOND:
                    advance();
                    draft.startBond = takeNumber(0, BONDS - 1);
                    break;
                case KNOWS:
                    knowsLine();
                    break;
                case COMES:
                case MAY:
                    lawLine();
                    break;
                default:
                    fail(NOT_HERE);
                    break;
            }
            take(';');
            draft.lines++;
        }

        private void factLine() {
            if (draft.facts >= MOST_FACTS) {
                fail(ONE_TOO_MANY);
                return;
            }
            int fact = draft.facts;
            draft.facts++;
            advance();
            for (int k = 0; k < length && token == KIND; k++) {
                advance();
                draft.setKind(fact, takeNumber(0, 9));
            }
        }

        private void doingLine() {
            if (draft.doings >= MOST_DOINGS) {
                fail(ONE_TOO_MANY);
                return;
            }
            int d = draft.doings;
            draft.doings++;
            advance();
            for (int k = 0; k < length && (token == NEEDS || token == BUT); k++) {
                if (token == NEEDS) {
                    advance();
                    int fact = takeNumber(0, draft.facts - 1);
                    take(AGE);
                    draft.setNeed(d, fact, takeNumber(1, OLDEST));
                } else {
                    advance();
                    draft.setBut(d, takeNumber(0, draft.facts - 1));
                }
            }
        }

        private void knowsLine() {
            advance();
            int twin = takeNumber(0, TWINS - 1);
            int fact = takeNumber(0, draft.facts - 1);
            int age = takeNumber(0, OLDEST);
            if (fault == 0) {
                draft.setStart(twin, fact, age);
            }
        }

        private void lawLine() {
            inMay = token == MAY;
            advance();
            take(':');
            int from = laws.size;
            if (inMay) {
                truth(0);
                laws.setMay(from);
            } else {
                sum(0);
                laws.setComes(from);
            }
        }

        private void sum(int depth) {
            term(depth);
            for (int k = 0; k < length && (token == '+' || token == '-'); k++) {
                int step = token == '+' ? Laws.PLUS : Laws.MINUS;
                advance();
                term(depth);
                laws.add(step);
            }
        }

        private void term(int depth) {
            atom(depth);
            for (int k = 0; k < length && token == '*'; k++) {
                advance();
                atom(depth);
                laws.add(Laws.TIMES);
            }
        }

        private void atom(int depth) {
            if (token == '(') {
                if (opens(depth)) {
                    sum(depth + 1);
                    take(')');
                }
            } else if (token == IF) {
                if (opens(depth)) {
                    choice(depth + 1);
                }
            } else {
                int step = stepOfToken();
                if (step < 0) {
                    fail(NOT_HERE);
                } else {
                    laws.add(step);
                    advance();
                }
            }
        }

        /** What a number or a name is in a law, or NONE where the token is neither. */
        private int stepOfToken() {
            switch (token) {
                case NUMBER:
                    return Laws.NUMBER + number;
                case TWIN:
                    return Laws.TWIN;
                case FACT:
                    return Laws.FACT;
                case KIND:
                    return Laws.KIND;
                case KNOWN:
                    return Laws.KNOWN;
                case THEIRS:
                    return Laws.THEIRS;
                case BOND:
                    return inMay ? NONE : Laws.BOND;
                default:
                    return NONE;
            }
        }

        /** One of not [ ( if: it is taken, unless six are open. */
        private boolean opens(int depth) {
            if (depth >= DEEPEST) {
                fail(ONE_TOO_MANY);
                return false;
            }
            advance();
            return true;
        }

        private void choice(int depth) {
            truth(depth);
            take(THEN);
            sum(depth);
            take(ELSE);
            sum(depth);
            take(ENDS);
            laws.add(Laws.CHOICE);
        }

        private void truth(int depth) {
            both(depth);
            for (int k = 0; k < length && token == OR; k++) {
                advance();
                both(depth);
                laws.add(Laws.OR);
            }
        }

        private void both(int depth) {
            unit(depth);
            for (int k = 0; k < length && token == AND; k++) {
                advance();
                unit(depth);
                laws.add(Laws.AND);
            }
        }

        private void unit(int depth) {
            if (token == NOT) {
                if (opens(depth)) {
                    unit(depth + 1);
                    laws.add(Laws.NOT);
                }
            } else if (token == '[') {
                if (opens(depth)) {
                    truth(depth + 1);
                    take(']');
                }
            } else {
                comparison(depth);
            }
        }

        private void comparison(int depth) {
            sum(depth);
            int step = token == '=' ? Laws.LIKE : token == '<' ? Laws.BELOW : Laws.ABOVE;
            if (token == '=' || token == '<' || token == '>') {
                advance();
                sum(depth);
                laws.add(step);
            } else {
                fail(NOT_HERE);
            }
        }
    }

    /** What deeds change and undoing brings back: the ages of all and the bond. */
    private static final class Stand {
        private static final int NO_SUCH_ONE = 1;
        private static final int NOT_KNOWN = 2;
        private static final int MAY_NOT = 3;

        int ages;
        int bond;
        int why;
        private int seed;

        void copy(Stand other) {
            ages = other.ages;
            bond = other.bond;
        }

        private static boolean isThere(House house, int twin, int fact) {
            return twin >= 0 && twin < TWINS && fact >= 0 && fact < house.facts;
        }

        int telling(House house, int twin, int fact) {
            if (!isThere(house, twin, fact)) {
                return NO_SUCH_ONE;
            }
            int next = house.afterTelling(ages, bond, twin, fact);
            if (next < 0) {
                return MAY_NOT;
            }
            ages = next;
            return 0;
        }

        int forgetting(House house, int twin, int fact) {
            if (!isThere(house, twin, fact)) {
                return NO_SUCH_ONE;
            }
            if (House.ageIn(ages, twin, fact) == 0) {
                return NOT_KNOWN;
            }
            ages &= ~(3 << 4 * fact + 2 * twin);
            return 0;
        }

        int bonding(int n) {
            if (n < 0 || n >= BONDS) {
                return NO_SUCH_ONE;
            }
            bond = n;
            return 0;
        }

        private int deed(House house, long v) {
            if (v == DAY_AS_DEED) {
                ages = House.afterDay(ages);
                return 0;
            }
            if (v >= 0 && v < 20) {
                return telling(house, (int) v / 10, (int) v % 10);
            }
            if (v >= 100 && v < 120) {
                return forgetting(house, (int) v / 10 - 10, (int) v % 10);
            }
            return v >= 200 && v < 210 ? bonding((int) v - 200) : NO_SUCH_ONE;
        }

        /** Does the deeds of a tray till one can't be, whose why is kept: how many. */
        int deeds(House house, Tray tray) {
            why = 0;
            for (int k = 0; k < tray.size; k++) {
                why = deed(house, tray.at(k));
                if (why != 0) {
                    return k;
                }
            }
            return Math.max(0, tray.size);
        }

        int drawnDeeds(House house, int firstSeed, int times) {
            seed = firstSeed;
            int done = 0;
            for (int k = 0; k < times; k++) {
                if (deed(house, drawnDeed()) == 0) {
                    done++;
                }
            }
            return done;
        }

        private int drawnDeed() {
            int sort = draw() % 6;
            if (sort == 4) {
                return DAY_AS_DEED;
            }
            if (sort == 5) {
                return 200 + draw() % 10;
            }
            int twin = draw() % 2;
            int fact = draw() % 4;
            return (sort == 3 ? 100 : 0) + 10 * twin + fact;
        }

        private int draw() {
            seed = 1103515245 * seed + 12345;
            return seed >>> 16;
        }
    }

    /** How all stood ahead of the latest calls that did some. */
    private static final class Past {
        int kept;
        private final int[] ages = new int[MOST_UNDONE];
        private final int[] bonds = new int[MOST_UNDONE];

        void clear() {
            kept = 0;
        }

        void keep(Stand stand) {
            if (kept >= MOST_UNDONE) {
                System.arraycopy(ages, 1, ages, 0, MOST_UNDONE - 1);
                System.arraycopy(bonds, 1, bonds, 0, MOST_UNDONE - 1);
                kept = MOST_UNDONE - 1;
            }
            ages[kept] = stand.ages;
            bonds[kept] = stand.bond;
            kept++;
        }

        void bringBack(int n, Stand stand) {
            if (n >= 1 && n <= kept) {
                kept -= n;
                stand.ages = ages[kept];
                stand.bond = bonds[kept];
            }
        }
    }

    private static final class Tray {
        int size = NONE;
        private int sort;
        private final long[] cells = new long[MOST_NUMBERS];

        boolean isMissing() {
            return size < 0;
        }

        void lay(int newSort, int n) {
            sort = newSort;
            size = n;
            Arrays.fill(cells, 0L);
        }

        long at(int i) {
            return i >= 0 && i < cells.length ? cells[i] : 0L;
        }

        void put(int i, long v) {
            if (i >= 0 && i < cells.length) {
                cells[i] = cut(v);
            }
        }

        private long cut(long v) {
            switch (sort) {
                case 0:
                    return (byte) v;
                case 1:
                    return (short) v;
                case 2:
                    return (int) v;
                default:
                    return v;
            }
        }
    }

    /**
     * All ages that rows come to, shortest rows first, of like ones the first row's first. It goes
     * only as far as it is asked, and goes on from there as long as it is asked of the same stand.
     */
    private static final class Search {
        static final int DAY = 20;
        // Each step of a shortest row makes one of eight ages greater, three times at most.
        private static final int MOST_STEPS = 24;

        // Ages in the lower 16 bits, behind which place they were found in the upper 16.
        private int[] places = new int[1];
        private int[] seen = new int[1];
        private int found;
        private int opened;
        private House house;
        private int start;
        private int bond;
        private int skippedTwin;
        private int skippedFact;

        Search(House any) {
            house = any;
        }

        void drop() {
            Arrays.fill(seen, 0);
            found = 0;
            opened = 0;
        }

        /** Rows from a stand in which one twin, one fact (or NONE) aren't told. */
        void begin(House home, Stand from, int noTwin, int noFact) {
            if (found > 0 && house == home && start == from.ages && bond == from.bond
                && skippedTwin == noTwin && skippedFact == noFact) {
                return;
            }
            skippedTwin = noTwin;
            skippedFact = noFact;
            settle(home, from);
            add(0, start);
        }

        private void settle(House home, Stand from) {
            drop();
            house = home;
            start = from.ages;
            bond = from.bond;
            int room = home.room();
            if (places.length < room) {
                places = new int[room];
                seen = new int[(room >> 5) + 1];
            }
        }

        private void add(int from, int ages) {
            int word = ages >> 5;
            if (ages < 0 || word >= seen.length || found >= places.length) {
                return;
            }
            int bit = 1 << (ages & 31);
            if ((seen[word] & bit) == 0) {
                seen[word] |= bit;
                places[found] = from << 16 | ages;
                found++;
            }
        }

        private void open(int place) {
            int ages = agesOf(place);
            for (int twin = 0; twin < TWINS; twin++) {
                int cases = house.caseAt(ages, bond, twin);
                for (int fact = 0; fact < house.facts && twin != skippedTwin; fact++) {
                    if (fact != skippedFact) {
                        add(place, house.afterCase(ages, cases, twin, fact));
                    }
                }
            }
            add(place, House.afterDay(ages));
        }

        private boolean finds(int place) {
            for (; opened < places.length && opened < found && found <= place; opened++) {
                open(opened);
            }
            return place < found;
        }

        int findAll() {
            finds(places.length);
            return found;
        }

        int agesOf(int place) {
            return place >= 0 && place < found && place < places.length ? places[place] & 0xFFFF : 0;
        }

        private int placeAhead(int place) {
            return place >= 0 && place < found && place < places.length ? places[place] >>> 16 : 0;
        }

        /** The place of the first ages at which a goal is, or NONE. */
        int firstAtGoal(int first, int second) {
            for (int place = 0; place < places.length && finds(place); place++) {
                if (house.doAtLeast(agesOf(place), first, second)) {
                    return place;
                }
            }
            return NONE;
        }

        /** The place of the first ages at which a twin does a doing and the other one doesn't, or NONE. */
        int firstAlone(int twin, int d) {
            for (int place = 0; place < places.length && finds(place); place++) {
                int ages = agesOf(place);
                int alone = house.doneBy(ages, twin) & ~house.doneBy(ages, 1 - twin);
                if ((alone >> d & 1) != 0) {
                    return place;
                }
            }
            return NONE;
        }

        int stepsTo(int end) {
            int steps = 0;
            int place = end;
            while (steps < MOST_STEPS && place > 0) {
                place = placeAhead(place);
                steps++;
            }
            return steps;
        }

        /** The i-th move on the way to a place. */
        int stepAt(int end, int i) {
            int place = end;
            for (int k = stepsTo(end) - 1; k > i; k--) {
                place = placeAhead(place);
            }
            return moveBetween(agesOf(placeAhead(place)), agesOf(place));
        }

        /** The first move is the one that found the place: moves are tried in their order. */
        private int moveBetween(int from, int to) {
            for (int twin = 0; twin < TWINS; twin++) {
                for (int fact = 0; fact < house.facts; fact++) {
                    if (house.afterTelling(from, bond, twin, fact) == to) {
                        return 10 * twin + fact;
                    }
                }
            }
            return DAY;
        }

        /** Layer by layer of tellings, what days bring being in the same layer. */
        int fewestTellings(House home, Stand from, int first, int second) {
            settle(home, from);
            addWithDays(start);
            int layer = 0;
            for (int fewest = 0; fewest < places.length && layer < found; fewest++) {
                int end = found;
                for (int place = layer; place < end; place++) {
                    if (house.doAtLeast(agesOf(place), first, second)) {
                        return fewest;
                    }
                    openTellings(agesOf(place));
                }
                layer = end;
            }
            return NONE;
        }

        private void openTellings(int ages) {
            for (int twin = 0; twin < TWINS; twin++) {
                int cases = house.caseAt(ages, bond, twin);
                for (int fact = 0; fact < house.facts; fact++) {
                    addWithDays(house.afterCase(ages, cases, twin, fact));
                }
            }
        }

        private void addWithDays(int ages) {
            int later = ages;
            for (int day = 0; day < OLDEST && later >= 0; day++) {
                add(0, later);
                later = House.afterDay(later);
            }
        }
    }

    /** How many rows of one length end at each ages. */
    private static final class RowCount {
        private long[] ways = new long[1];
        private House house;
        private int bond;
        private int lowest;
        private int highest;

        RowCount(House any) {
            house = any;
        }

        void begin(House home, Stand from) {
            house = home;
            bond = from.bond;
            if (ways.length < home.room()) {
                ways = new long[home.room()];
            }
            Arrays.fill(ways, 0L);
            lowest = from.ages;
            highest = from.ages;
            add(from.ages, 1L);
        }

        private void add(int ages, long more) {
            if (ages >= 0 && ages < ways.length) {
                ways[ages] += more;
                highest = Math.max(highest, ages);
            }
        }

        /** Moves never lead to lesser numbers: from the highest down, one row of ways is enough. */
        void lengthen() {
            for (int ages = highest; ages >= lowest && ages >= 0 && ages < ways.length; ages--) {
                long here = ways[ages];
                if (here != 0L) {
                    ways[ages] = 0L;
                    spread(ages, here);
                }
            }
        }

        private void spread(int ages, long here) {
            for (int twin = 0; twin < TWINS; twin++) {
                int cases = house.caseAt(ages, bond, twin);
                for (int fact = 0; fact < house.facts; fact++) {
                    add(house.afterCase(ages, cases, twin, fact), here);
                }
            }
            add(House.afterDay(ages), here);
        }

        long atGoal(int first, int second) {
            long all = 0L;
            for (int ages = Math.max(0, lowest); ages <= highest && ages < ways.length; ages++) {
                if (ways[ages] != 0L && house.doAtLeast(ages, first, second)) {
                    all += ways[ages];
                }
            }
            return all;
        }
    }

    /** A friend and an enemy who tell by turns, for one twin and one doing. */
    private static final class Duel {
        // By ages: for each of both players and turns left two bits: 1 not forced, 2 forced.
        private int[] judged = new int[1];
        private House house;
        private int bond;
        private int twin;
        private int wanted;

        Duel(House any) {
            house = any;
        }

        void begin(House home, int bondNow, int one, int d) {
            house = home;
            bond = bondNow;
            twin = one;
            wanted = d;
            if (judged.length < home.room()) {
                judged = new int[home.room()];
            }
            Arrays.fill(judged, 0);
        }

        int fewestTurns(int ages) {
            for (int turns = 0; turns <= MOST_TURNS; turns++) {
                if (isForced(ages, turns, true)) {
                    return turns;
                }
            }
            return NONE;
        }

        /** The friend's first move, as an answer, by which it is forced within so many turns. */
        int firstMove(int ages, int turns) {
            for (int told = 0; told < TWINS; told++) {
                for (int fact = 0; fact < house.facts; fact++) {
                    int next = house.afterTelling(ages, bond, told, fact);
                    if (next >= 0 && isForced(next, turns - 1, false)) {
                        return 10 * told + fact;
                    }
                }
            }
            return isForced(House.afterDay(ages), turns - 1, false) ? DAY_AS_ANSWER : NONE;
        }

        private boolean isForced(int ages, int left, boolean friend) {
            if (ages < 0 || ages >= judged.length) {
                return false;
            }
            if ((house.doneBy(ages, twin) >> wanted & 1) != 0) {
                return true;
            }
            if (left <= 0 || left > MOST_TURNS) {
                return false;
            }
            int shift = 2 * (left - 1) + (friend ? 2 * MOST_TURNS : 0);
            int known = judged[ages] >> shift & 3;
            if (known != 0) {
                return known == 2;
            }
            // The friend looks for a move that forces, the enemy for one that doesn't.
            boolean forced = hasMoveTo(friend, ages, left) == friend;
            judged[ages] |= (forced ? 2 : 1) << shift;
            return forced;
        }

        private boolean hasMoveTo(boolean friend, int ages, int left) {
            for (int told = 0; told < TWINS; told++) {
                for (int fact = 0; fact < house.facts; fact++) {
                    int next = house.afterTelling(ages, bond, told, fact);
                    if (next >= 0 && isForced(next, left - 1, !friend) == friend) {
                        return true;
                    }
                }
            }
            return isForced(House.afterDay(ages), left - 1, !friend) == friend;
        }
    }

    /** Tellings at random: in how many of all like draws a twin does each doing. */
    private static final class Draws {
        int all;
        private final int[] hits = new int[MOST_DOINGS];
        private House house;
        private int bond;
        private int twin;

        Draws(House any) {
            house = any;
        }

        void ask(House home, Stand from, int one, int n) {
            house = home;
            bond = from.bond;
            twin = one;
            all = 0;
            Arrays.fill(hits, 0);
            go(from.ages, n);
        }

        int hitsOf(int d) {
            return d >= 0 && d < hits.length ? hits[d] : 0;
        }

        private void go(int ages, int left) {
            // Without facts there are no ages that days could change.
            if (left <= 0 || house.facts == 0) {
                tally(house.doneBy(ages, twin));
                return;
            }
            for (int told = 0; told < TWINS; told++) {
                for (int fact = 0; fact < house.facts; fact++) {
                    int next = house.afterTelling(ages, bond, told, fact);
                    go(House.afterDay(next < 0 ? ages : next), left - 1);
                }
            }
        }

        private void tally(int done) {
            all++;
            for (int d = 0; d < hits.length; d++) {
                hits[d] += done >> d & 1;
            }
        }
    }

    /** Who was told each time, by what both do then. */
    private static final class Witness {
        int found;
        // Rows as bits by places: where twin 1 was told.
        int firstRow;
        int alwaysFirst;
        int alwaysSecond;
        private House house;
        private int bond;
        private Tray facts = new Tray();
        private int wantedOfFirst;
        private int wantedOfSecond;

        Witness(House any) {
            house = any;
        }

        void ask(House home, Stand from, Tray tray, int first, int second) {
            house = home;
            bond = from.bond;
            facts = tray;
            wantedOfFirst = first;
            wantedOfSecond = second;
            found = 0;
            firstRow = 0;
            alwaysFirst = 0;
            alwaysSecond = 0;
            go(from.ages, 0, 0);
        }

        private void go(int ages, int k, int row) {
            if (k >= facts.size || k >= MOST_TOLD) {
                weigh(ages, row);
                return;
            }
            for (int twin = 0; twin < TWINS; twin++) {
                int next = house.afterTelling(ages, bond, twin, (int) facts.at(k));
                if (next >= 0) {
                    go(House.afterDay(next), k + 1, row | twin << k);
                }
            }
        }

        private void weigh(int ages, int row) {
            if (!house.doJust(ages, wantedOfFirst, wantedOfSecond)) {
                return;
            }
            int others = (1 << facts.size) - 1 & ~row;
            if (found == 0) {
                firstRow = row;
                alwaysFirst = others;
                alwaysSecond = row;
            }
            alwaysFirst &= others;
            alwaysSecond &= row;
            found++;
        }
    }
}
