import java.util.ArrayList;
import java.util.Arrays;

/** A people ruled by grades through which all men pass: see README.md. */
public final class AgeSets {
    private static final int YEARS = 800;
    private static final int PERIOD_YEARS = 8;
    private static final int PERIODS = 100;
    private static final int MEN = 40;
    private static final int OFFICES = 6;
    private static final int LAWS = 16;
    private static final int SHELVES = 8;
    private static final int TOP_GRADE = 11;
    private static final int MOST_MISSED = 20;
    private static final int LONGEST_LAW = 20;
    private static final int LONGEST_TURN = 20;
    private static final int MOST_PAID_AT_ONCE = 1000;
    private static final int MOST_PAID = 100000;
    private static final int LONGEST_ROW_MADE = 60;

    /** How many steps sons are behind their fathers, where no other rule is told. */
    private static final int BEHIND = 5;
    private static final int MOST_BEHIND = 9;
    /** Further than any step: 100 periods, and 9 for each of 40 men. */
    private static final int BEYOND_STEPS = 1000;

    private static final int NOT = 0;
    private static final int PERHAPS = 1;
    private static final int SURELY = 2;

    private static final int EARLY = 0;
    private static final int LATE = 1;
    private static final int IN_TIME = 2;

    private static final int GRADE = 0;
    private static final int MOST = 1;
    private static final int TURN = 2;
    private static final int HALVES = 3;
    private static final int TIME = 4;
    private static final int MARRY = 5;

    private static final int NOTHING = 0;
    private static final int A_LAW = 1;
    private static final int BYTES = 3;
    private static final int INTS = 4;

    private static final int NOT_AS_TOLD = -1;
    private static final int NO_MORE = -2;
    private static final int NOBODY = -2;
    private static final int AGAINST_WHAT_IS = -3;
    private static final int LIVES_NOT = -4;
    private static final int NOTHING_HELD = -11;
    private static final int OTHER_KIND = -12;
    private static final int NO_PLACE = -13;
    private static final int SIZE_BELOW_0 = -14;
    private static final int NO_FAILURE = -15;

    private static final int NO_MAN = -1;
    private static final int NO_OFFICE = -1;

    /** Of each office o: as bits, all sets of offices (0 .. 63) in which o is not. */
    private static final long[] SETS_WITHOUT = {
        0x5555555555555555L, 0x3333333333333333L, 0x0F0F0F0F0F0F0F0FL,
        0x00FF00FF00FF00FFL, 0x0000FFFF0000FFFFL, 0x00000000FFFFFFFFL
    };
    private static final int ALL_OFFICES = (1 << OFFICES) - 1;

    private final ArrayList<Man> men = new ArrayList<Man>();
    private final ArrayList<Law> laws = new ArrayList<Law>();
    private final int[][] holders = new int[OFFICES][PERIODS];
    private final Thing[] shelves = new Thing[SHELVES];

    /** Made once and used again: a call of fill() or room() leaves nothing in the heap. */
    private final int[] ableFor = new int[MEN];
    /** Made once and used again by span(). */
    private final int[] gradesBefore = new int[MEN];

    public AgeSets() {
        for (int office = 0; office < OFFICES; office++) {
            Arrays.fill(holders[office], NO_MAN);
        }
    }

    // ---- men

    public int man(int half, int first, int last) {
        if (half < 0 || half > 1 || !isSpan(first, last)) {
            return NOT_AS_TOLD;
        }
        if (men.size() >= MEN) {
            return NO_MORE;
        }
        return admit(new Man(men.size(), half, null), first, last);
    }

    public int son(int father, int first, int last) {
        Man his = manOf(father);
        if (his == null || !isSpan(first, last)) {
            return NOT_AS_TOLD;
        }
        if (men.size() >= MEN) {
            return NO_MORE;
        }
        if (last <= his.first || his.death + 2 <= first) {
            return AGAINST_WHAT_IS;
        }
        his.sons++;
        return admit(new Man(men.size(), his.half, his), first, last);
    }

    public int span(int man, int first, int last, int period) {
        Man he = manOf(man);
        if (he == null || !isSpan(first, last) || !isPeriod(period)) {
            return NOT_AS_TOLD;
        }
        for (int i = 0; i < men.size(); i++) {
            gradesBefore[i] = gradeIfLiving(men.get(i), period);
        }
        he.first = first;
        he.last = last;
        int others = 0;
        for (int i = 0; i < men.size(); i++) {
            int before = gradesBefore[i];
            int now = gradeIfLiving(men.get(i), period);
            if (before >= 0 && now >= 0 && before != now) {
                others++;
            }
        }
        return others;
    }

    public int death(int man, int year) {
        Man he = manOf(man);
        if (he == null || year < 0 || year > YEARS) {
            return NOT_AS_TOLD;
        }
        int before = he.death;
        he.death = year;
        return before;
    }

    public int miss(int man, int period) {
        Man he = manOf(man);
        if (he == null || !isPeriod(period)) {
            return NOT_AS_TOLD;
        }
        if (he.missed >= MOST_MISSED) {
            return NO_MORE;
        }
        he.missedIn[he.missed] = period;
        he.missed++;
        return he.missed;
    }

    public int about(int man, int what) {
        Man he = manOf(man);
        if (he == null) {
            return NOT_AS_TOLD;
        }
        switch (what) {
            case 0: return he.father == null ? NOBODY : he.father.number;
            case 1: return he.half;
            case 2: return he.first;
            case 3: return he.last;
            case 4: return he.death;
            case 5: return he.missed;
            case 6: return he.wedding;
            case 7: return he.sons;
            default: return NOT_AS_TOLD;
        }
    }

    public long step(int man, int period) throws IllegalArgumentException {
        Man he = manOf(man);
        if (he == null || !isPeriod(period)) {
            throw new IllegalArgumentException("no such man or period");
        }
        return he.stepIfBorn(he.first, period, BEHIND);
    }

    public int grade(int man, int period, int grade) {
        Man he = manOf(man);
        if (he == null || !isPeriod(period) || !isGrade(grade)) {
            return NOT_AS_TOLD;
        }
        if (!he.livesIn(period)) {
            return LIVES_NOT;
        }
        return he.sureOfGrade(period, grade, grade);
    }

    public int born(int man, int what) {
        Man he = manOf(man);
        if (he == null || what < EARLY || what > IN_TIME) {
            return NOT_AS_TOLD;
        }
        return sureOfBirth(he, what);
    }

    public int forefather(int man, int other) {
        Man one = manOf(man);
        Man two = manOf(other);
        if (one == null || two == null) {
            return NOT_AS_TOLD;
        }
        // A father's number is below his sons', so the first that both chains share is the greatest.
        for (Man elder = one; elder != null; elder = elder.father) {
            if (descends(two, elder)) {
                return elder.number;
            }
        }
        return NOBODY;
    }

    // ---- laws and offices

    public int law(int told, int n, int period, int length) {
        if (!isLawTold(told) || !isPeriod(period) || length < 1 || length > LONGEST_LAW) {
            return NOT_AS_TOLD;
        }
        Law law = new Law(told, n, period, length);
        if (!law.hasGoodN()) {
            return NOT_AS_TOLD;
        }
        if (laws.size() >= LAWS) {
            return NO_MORE;
        }
        laws.add(law);
        return laws.size() - 1;
    }

    public int holds(int law, int period) {
        Law it = lawOf(law);
        if (it == null || !isPeriod(period)) {
            return NOT_AS_TOLD;
        }
        return it.isInForce(period) ? 1 : 0;
    }

    public int could(int man, int office, int period) {
        Man he = manOf(man);
        if (he == null || !isOffice(office) || !isPeriod(period)) {
            return NOT_AS_TOLD;
        }
        return sureToHold(he, office, period);
    }

    public int put(int man, int office, int period) {
        Man he = manOf(man);
        if (he == null || !isOffice(office) || !isPeriod(period)) {
            return NOT_AS_TOLD;
        }
        if (holdsOther(he, office, period)) {
            return AGAINST_WHAT_IS;
        }
        int before = holders[office][period];
        holders[office][period] = man;
        return before == NO_MAN ? NOBODY : before;
    }

    public int empty(int office, int period) {
        if (!isOffice(office) || !isPeriod(period)) {
            return NOT_AS_TOLD;
        }
        int before = holders[office][period];
        if (before == NO_MAN) {
            return AGAINST_WHAT_IS;
        }
        holders[office][period] = NO_MAN;
        return before;
    }

    public int holder(int office, int period) {
        if (!isOffice(office) || !isPeriod(period)) {
            return NOT_AS_TOLD;
        }
        int now = holders[office][period];
        return now == NO_MAN ? NOBODY : now;
    }

    public int held(int man, int period) {
        Man he = manOf(man);
        if (he == null || !isPeriod(period)) {
            return NOT_AS_TOLD;
        }
        int holdings = 0;
        for (int office = 0; office < OFFICES; office++) {
            holdings += timesHeld(he, office, 0, period);
        }
        return holdings;
    }

    public int fill(int period) {
        if (!isPeriod(period)) {
            return NOT_AS_TOLD;
        }
        findAble(period);
        int most = mostFilled(ALL_OFFICES);
        int left = most;
        int later = ALL_OFFICES;
        for (int office = 0; office < OFFICES; office++) {
            later &= ~(1 << office);
            int chosen = takeLeastMan(office, later, left - 1);
            if (chosen != NO_MAN) {
                holders[office][period] = chosen;
                left--;
            }
        }
        return most;
    }

    public int room(int period) {
        if (!isPeriod(period)) {
            return NOT_AS_TOLD;
        }
        findAble(period);
        return mostFilled(ALL_OFFICES);
    }

    public int breaches() {
        int found = 0;
        for (int period = 0; period < PERIODS; period++) {
            for (int office = 0; office < OFFICES; office++) {
                if (isBreach(office, period)) {
                    found++;
                }
            }
        }
        return found;
    }

    public int breach(int i) {
        if (i < 0) {
            return NOT_AS_TOLD;
        }
        int left = i;
        for (int period = 0; period < PERIODS; period++) {
            for (int office = 0; office < OFFICES; office++) {
                if (isBreach(office, period)) {
                    if (left == 0) {
                        return 10 * period + office;
                    }
                    left--;
                }
            }
        }
        return AGAINST_WHAT_IS;
    }

    public int may(int man, int year) {
        Man he = manOf(man);
        if (he == null || !isYear(year)) {
            return NOT_AS_TOLD;
        }
        int period = periodOf(year);
        if (!he.livesIn(period) || he.hasSomebody()) {
            return NOT;
        }
        return sureByLaws(he, NO_OFFICE, period);
    }

    public int marry(int man, int year) {
        Man he = manOf(man);
        if (he == null || !isYear(year)) {
            return NOT_AS_TOLD;
        }
        int period = periodOf(year);
        if (!he.livesIn(period) || he.hasSomebody()) {
            return AGAINST_WHAT_IS;
        }
        he.wedding = year;
        return sureByLaws(he, NO_OFFICE, period);
    }

    // ---- numbers, cattle, moons

    public int numbers(int period, int grade, int d) {
        if (!isPeriod(period) || !isGrade(grade) || !isRule(d)) {
            return NOT_AS_TOLD;
        }
        return menOfGrade(period, grade, d);
    }

    public int outside(int d, int what) {
        if (!isRule(d) || what < EARLY || what > LATE) {
            return NOT_AS_TOLD;
        }
        return sonsOutside(d, what);
    }

    public int best() {
        int best = 1;
        int fewest = sonsOutside(1, EARLY) + sonsOutside(1, LATE);
        for (int d = 2; d <= MOST_BEHIND; d++) {
            int outside = sonsOutside(d, EARLY) + sonsOutside(d, LATE);
            boolean nearer = Math.abs(d - BEHIND) < Math.abs(best - BEHIND);
            if (outside < fewest || (outside == fewest && nearer)) {
                best = d;
                fewest = outside;
            }
        }
        return best;
    }

    public long owes(int man, int period) throws IllegalArgumentException {
        Man he = manOf(man);
        if (he == null || !isPeriod(period)) {
            throw new IllegalArgumentException("no such man or period");
        }
        long owed = -he.paid;
        for (int q = periodOf(he.first); q <= period; q++) {
            if (he.livesIn(q)) {
                owed += he.gradeBy(q, BEHIND);
            }
        }
        return owed;
    }

    public int pay(int man, int n) {
        Man he = manOf(man);
        if (he == null || n < 1 || n > MOST_PAID_AT_ONCE) {
            return NOT_AS_TOLD;
        }
        if (he.paid + n > MOST_PAID) {
            return NO_MORE;
        }
        he.paid += n;
        return he.paid;
    }

    public int moons(int from, int to) {
        if (!isSpan(from, to)) {
            return NOT_AS_TOLD;
        }
        int longYears = 0;
        for (int year = from; year <= to; year++) {
            if ((7 * year + 1) % 19 < 7) {
                longYears++;
            }
        }
        return longYears;
    }

    public int count(int what) {
        switch (what) {
            case 0: return men.size();
            case 1: return laws.size();
            case 2: return allHoldings();
            case 3: return allMissed();
            case 4: return allMarried();
            default: return NOT_AS_TOLD;
        }
    }

    public int keep(int d, int what, int k) {
        if (!isShelf(d)) {
            return NOT_AS_TOLD;
        }
        Thing thing = thingToKeep(what, k);
        if (thing == null && what != NOTHING) {
            return NOT_AS_TOLD;
        }
        shelves[d] = thing;
        return 0;
    }

    public int make(int d, int what, int n) {
        if (!isShelf(d) || (what != BYTES && what != INTS) || n > LONGEST_ROW_MADE) {
            return NOT_AS_TOLD;
        }
        if (n < 0) {
            return SIZE_BELOW_0;
        }
        shelves[d] = new Row(what, new int[n]);
        return 0;
    }

    public long element(int d, int i) throws IllegalArgumentException, IllegalStateException {
        if (!isShelf(d)) {
            throw new IllegalArgumentException("no such shelf");
        }
        Row row = rowOn(d);
        if (row == null || i < 0 || i >= row.cells.length) {
            throw new IllegalStateException("no row there, or no such place in it");
        }
        return row.cells[i];
    }

    public int copy(int d, int i, int e, int j, int n) {
        if (!isShelf(d) || !isShelf(e)) {
            return NOT_AS_TOLD;
        }
        if (shelves[d] == null || shelves[e] == null) {
            return NOTHING_HELD;
        }
        Row source = rowOn(d);
        Row goal = rowOn(e);
        if (source == null || goal == null || source.what != goal.what) {
            return OTHER_KIND;
        }
        if (!source.hasPlaces(i, n) || !goal.hasPlaces(j, n)) {
            return NO_PLACE;
        }
        System.arraycopy(source.cells, i, goal.cells, j, n);
        return n;
    }

    public int weight(int d) {
        if (!isShelf(d)) {
            return NOT_AS_TOLD;
        }
        if (shelves[d] == null) {
            return NOTHING_HELD;
        }
        Law law = lawOn(d);
        return law == null ? OTHER_KIND : law.heaviness();
    }

    public int toss(int d) {
        if (!isShelf(d)) {
            return NOT_AS_TOLD;
        }
        if (shelves[d] == null) {
            return NOTHING_HELD;
        }
        Law law = lawOn(d);
        if (law == null) {
            return OTHER_KIND;
        }
        try {
            law.fail();
        } catch (IllegalStateException failure) {
            return law.office;
        }
        return NO_FAILURE;
    }

    // ---- what is told rightly

    private static boolean isYear(int year) {
        return year >= 0 && year < YEARS;
    }

    private static boolean isSpan(int first, int last) {
        return isYear(first) && isYear(last) && first <= last;
    }

    private static boolean isPeriod(int period) {
        return period >= 0 && period < PERIODS;
    }

    private static boolean isOffice(int office) {
        return office >= 0 && office < OFFICES;
    }

    private static boolean isGrade(int grade) {
        return grade >= 0 && grade <= TOP_GRADE;
    }

    private static boolean isRule(int d) {
        return d >= 1 && d <= MOST_BEHIND;
    }

    private static boolean isShelf(int d) {
        return d >= 0 && d < SHELVES;
    }

    private static boolean isLawTold(int told) {
        return told >= 0 && (told == 10 * MARRY || (told < 10 * MARRY && isOffice(told % 10)));
    }

    private static int periodOf(int year) {
        return year / PERIOD_YEARS;
    }

    private Man manOf(int number) {
        return number >= 0 && number < men.size() ? men.get(number) : null;
    }

    private Law lawOf(int number) {
        return number >= 0 && number < laws.size() ? laws.get(number) : null;
    }

    // ---- men: steps, grades, births

    private int admit(Man he, int first, int last) {
        he.first = first;
        he.last = last;
        men.add(he);
        return he.number;
    }

    private static int gradeIfLiving(Man he, int period) {
        return he.livesIn(period) ? he.gradeBy(period, BEHIND) : -1;
    }

    /**
     * Whether a value that may be each from low to high lies between least and most. Years follow
     * one another without a gap, so steps and grades do too, and the two ends tell of all.
     */
    private static int sureness(int low, int high, int least, int most) {
        if (high < least || low > most) {
            return NOT;
        }
        return least <= low && high <= most ? SURELY : PERHAPS;
    }

    /**
     * A father's step below d is a son's own step below 0, and one above 2 d is his own above d. By
     * his own step one without father is in time as he has to be: at his birth it is 0.
     */
    private static int sureOfBirth(Man he, int what) {
        int low = he.stepIfBorn(he.first, periodOf(he.first), BEHIND);
        int high = he.stepIfBorn(he.last, periodOf(he.last), BEHIND);
        return sureness(low, high, leastStepAtBirth(what, BEHIND), mostStepAtBirth(what, BEHIND));
    }

    private static int leastStepAtBirth(int what, int d) {
        if (what == EARLY) {
            return -BEYOND_STEPS;
        }
        return what == LATE ? d + 1 : 0;
    }

    private static int mostStepAtBirth(int what, int d) {
        if (what == LATE) {
            return BEYOND_STEPS;
        }
        return what == EARLY ? -1 : d;
    }

    private static boolean descends(Man he, Man from) {
        for (Man elder = he; elder != null; elder = elder.father) {
            if (elder == from) {
                return true;
            }
        }
        return false;
    }

    private int menOfGrade(int period, int grade, int d) {
        int found = 0;
        for (int i = 0; i < men.size(); i++) {
            Man he = men.get(i);
            if (he.livesIn(period) && he.gradeBy(period, d) == grade) {
                found++;
            }
        }
        return found;
    }

    private int sonsOutside(int d, int what) {
        int found = 0;
        for (int i = 0; i < men.size(); i++) {
            Man he = men.get(i);
            int step = he.stepIfBorn(he.first, periodOf(he.first), d);
            if (step >= leastStepAtBirth(what, d) && step <= mostStepAtBirth(what, d)) {
                found++;
            }
        }
        return found;
    }

    private int allMissed() {
        int missed = 0;
        for (int i = 0; i < men.size(); i++) {
            missed += men.get(i).missed;
        }
        return missed;
    }

    private int allMarried() {
        int married = 0;
        for (int i = 0; i < men.size(); i++) {
            if (men.get(i).hasSomebody()) {
                married++;
            }
        }
        return married;
    }

    // ---- laws and holdings

    /** Whether laws let a man hold an office, or marry where the office is NO_OFFICE. */
    private int sureByLaws(Man he, int office, int period) {
        int sure = SURELY;
        for (int i = 0; i < laws.size(); i++) {
            Law law = laws.get(i);
            if (law.office == office && law.isInForce(period)) {
                sure = Math.min(sure, sureKept(law, he, period));
            }
        }
        return sure;
    }

    private int sureKept(Law law, Man he, int period) {
        switch (law.kind) {
            case GRADE:
            case MARRY: return he.sureOfGrade(period, law.n, TOP_GRADE);
            case MOST: return he.sureOfGrade(period, 0, law.n);
            case TURN: return timesHeld(he, law.office, period - law.n, period) == 0 ? SURELY : NOT;
            case HALVES: return he.half == period % 2 ? SURELY : NOT;
            default: return sureOfBirth(he, IN_TIME);
        }
    }

    /** Doesn't ask who holds that very office: a breach is judged as if it were empty. */
    private int sureToHold(Man he, int office, int period) {
        if (!he.livesIn(period) || holdsOther(he, office, period)) {
            return NOT;
        }
        return sureByLaws(he, office, period);
    }

    private boolean holdsOther(Man he, int office, int period) {
        for (int other = 0; other < OFFICES; other++) {
            if (other != office && holders[other][period] == he.number) {
                return true;
            }
        }
        return false;
    }

    private int timesHeld(Man he, int office, int from, int before) {
        int times = 0;
        for (int period = Math.max(from, 0); period < before; period++) {
            if (holders[office][period] == he.number) {
                times++;
            }
        }
        return times;
    }

    private boolean isBreach(int office, int period) {
        Man he = manOf(holders[office][period]);
        return he != null && sureToHold(he, office, period) == NOT;
    }

    private int allHoldings() {
        int holdings = 0;
        for (int office = 0; office < OFFICES; office++) {
            for (int period = 0; period < PERIODS; period++) {
                if (holders[office][period] != NO_MAN) {
                    holdings++;
                }
            }
        }
        return holdings;
    }

    // ---- filling

    /**
     * Writes down of each man, as bits, the empty offices that he surely could hold. Who holds some
     * office in the period could hold none that is empty, so he gets no bit.
     */
    private void findAble(int period) {
        for (int i = 0; i < men.size(); i++) {
            ableFor[i] = 0;
            for (int office = 0; office < OFFICES; office++) {
                boolean isEmpty = holders[office][period] == NO_MAN;
                if (isEmpty && sureToHold(men.get(i), office, period) == SURELY) {
                    ableFor[i] |= 1 << office;
                }
            }
        }
    }

    /** As many of these offices as able men can fill. */
    private int mostFilled(int offices) {
        // Bit s: the men so far can fill just the set s of offices. All sets fit in one long.
        long fillable = 1L;
        for (int i = 0; i < men.size(); i++) {
            fillable = withOneMore(fillable, ableFor[i] & offices);
        }
        int most = 0;
        for (int set = 0; set <= ALL_OFFICES; set++) {
            if ((fillable >>> set & 1L) != 0) {
                most = Math.max(most, Integer.bitCount(set));
            }
        }
        return most;
    }

    private static long withOneMore(long fillable, int offices) {
        long more = fillable;
        for (int office = 0; office < OFFICES; office++) {
            if ((offices >> office & 1) != 0) {
                more |= (fillable & SETS_WITHOUT[office]) << (1 << office);
            }
        }
        return more;
    }

    /** The least man whose taking leaves so many to be filled of the later offices. */
    private int takeLeastMan(int office, int later, int stillToFill) {
        for (int i = 0; i < men.size(); i++) {
            int offices = ableFor[i];
            if ((offices >> office & 1) != 0) {
                ableFor[i] = 0;
                if (mostFilled(later) == stillToFill) {
                    return i;
                }
                ableFor[i] = offices;
            }
        }
        return NO_MAN;
    }

    // ---- shelves

    private Thing thingToKeep(int what, int k) {
        if (what == A_LAW) {
            return lawOf(k);
        }
        if (what == BYTES && isOffice(k)) {
            return new Row(BYTES, holders[k].clone());
        }
        return what == INTS && isPeriod(k) ? new Row(INTS, menByGrades(k)) : null;
    }

    private int[] menByGrades(int period) {
        int[] numbers = new int[TOP_GRADE + 1];
        for (int grade = 0; grade <= TOP_GRADE; grade++) {
            numbers[grade] = menOfGrade(period, grade, BEHIND);
        }
        return numbers;
    }

    private Law lawOn(int d) {
        return shelves[d] instanceof Law law ? law : null;
    }

    private Row rowOn(int d) {
        return shelves[d] instanceof Row row ? row : null;
    }

    /** What a shelf can hold. */
    private interface Thing {
    }

    private static final class Row implements Thing {
        /** BYTES or INTS: all that a row of bytes is ever given fits in a byte. */
        final int what;
        final int[] cells;

        Row(int what, int[] cells) {
            this.what = what;
            this.cells = cells;
        }

        boolean hasPlaces(int from, int n) {
            return n >= 0 && from >= 0 && from <= cells.length - n;
        }
    }

    private static final class Law implements Thing {
        final int kind;
        final int office;
        final int n;
        final int since;
        final int length;

        Law(int told, int n, int since, int length) {
            this.kind = told / 10;
            this.office = kind == MARRY ? NO_OFFICE : told % 10;
            this.n = n;
            this.since = since;
            this.length = length;
        }

        boolean hasGoodN() {
            if (kind == TURN) {
                return n >= 1 && n <= LONGEST_TURN;
            }
            return !usesN() || isGrade(n);
        }

        boolean usesN() {
            return kind != HALVES && kind != TIME;
        }

        boolean isInForce(int period) {
            return period >= since && period < since + length;
        }

        int heaviness() {
            int sum = 10 + kind;
            if (office != NO_OFFICE) {
                sum += 100 * (office + 1);
            }
            if (usesN()) {
                sum += n;
            }
            return kind == TURN ? 2 * sum : sum;
        }

        void fail() throws IllegalStateException {
            if (office != NO_OFFICE) {
                throw new IllegalStateException("a law of an office is not kept");
            }
        }
    }

    private static final class Man {
        final int number;
        final int half;
        final Man father;
        final int[] missedIn = new int[MOST_MISSED];
        int first;
        int last;
        int death = YEARS;
        int missed;
        int wedding = NOBODY;
        int sons;
        int paid;

        Man(int number, int half, Man father) {
            this.number = number;
            this.half = half;
            this.father = father;
        }

        boolean livesIn(int period) {
            return periodOf(first) <= period && period * PERIOD_YEARS < death;
        }

        boolean hasSomebody() {
            return wedding != NOBODY;
        }

        /** A birth year matters only to the step of one without father: sons go by their eldest's. */
        int stepIfBorn(int year, int period, int behind) {
            int eldestsBirth = year;
            int generations = 0;
            for (Man elder = father; elder != null; elder = elder.father) {
                eldestsBirth = elder.first;
                generations++;
            }
            return period - eldestsBirth / PERIOD_YEARS - behind * generations;
        }

        int gradeOfStep(int step, int period) {
            int grade = step;
            for (int i = 0; i < missed; i++) {
                if (missedIn[i] <= period) {
                    grade--;
                }
            }
            return Math.max(0, Math.min(TOP_GRADE, grade));
        }

        int gradeBy(int period, int behind) {
            return gradeOfStep(stepIfBorn(first, period, behind), period);
        }

        int sureOfGrade(int period, int least, int most) {
            int low = gradeOfStep(stepIfBorn(last, period, BEHIND), period);
            int high = gradeOfStep(stepIfBorn(first, period, BEHIND), period);
            return sureness(low, high, least, most);
        }
    }
}
