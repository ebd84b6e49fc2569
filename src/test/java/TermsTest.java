/** Of each sentence of "Terms" that names a boundary case, checks of its own. */
public final class TermsTest extends Checks {

    // ---- 1

    private static void yearsAndPeriods() {
        says("YEARS are 0 .. 799", () -> {
            AgeSets x = new AgeSets();
            due(0, x.man(0, 0, 799));
            for (int year : new int[] {-1, 800, LEAST, GREATEST}) {
                due(-1, x.man(0, year, 799));
                due(-1, x.man(0, 0, year));
                due(-1, x.man(0, year, year));
                due(-1, x.son(0, year, 799));
                due(-1, x.son(0, 0, year));
                due(-1, x.span(0, year, 799, 0));
                due(-1, x.span(0, 0, year, 0));
                due(-1, x.may(0, year));
                due(-1, x.marry(0, year));
                due(-1, x.moons(year, 799));
                due(-1, x.moons(0, year));
            }
            due(1, x.son(0, 0, 799));
            due(2, x.son(0, 799, 799));
            due(0, x.span(0, 0, 0, 0));
            due(0, x.span(2, 799, 799, 0));
            due(2, x.may(0, 0));
            due(2, x.may(0, 799));
            due(2, x.marry(2, 799));
            due(2, x.marry(0, 0));
        });
        says("YEAR y is in PERIOD y / 8 (cut; 0 .. 99)", () -> {
            int[] years = {0, 7, 8, 15, 16, 791, 792, 799};
            int[] periods = {0, 0, 1, 1, 2, 98, 99, 99};
            for (int k = 0; k < years.length; k++) {
                AgeSets x = new AgeSets();
                x.man(0, years[k], years[k]);
                due(0, x.step(0, periods[k]));
                due(2, x.grade(0, periods[k], 0));
                if (periods[k] > 0) {
                    due(-4, x.grade(0, periods[k] - 1, 0));
                }
                // Who is born in the period's first year lives in it, who is born in the next one not.
                int next = 8 * periods[k] + 8;
                AgeSets y = new AgeSets();
                y.man(0, next - 8, next - 8);
                y.man(0, Math.min(next, 799), 799);
                due(2, y.may(0, years[k]));
                due(next < 800 ? 0 : 2, y.may(1, years[k]));
            }
        });
        says("PERIODS 0 .. 99", () -> {
            AgeSets x = withMen(1);
            x.law(0, 0, 0, 20);
            for (int q : new int[] {-1, 100, LEAST, GREATEST}) {
                due(-1, x.span(0, 0, 0, q));
                due(-1, x.miss(0, q));
                dueThrow(IllegalArgumentException.class, () -> x.step(0, q));
                due(-1, x.grade(0, q, 0));
                due(-1, x.law(0, 0, q, 1));
                due(-1, x.holds(0, q));
                due(-1, x.could(0, 0, q));
                due(-1, x.put(0, 0, q));
                due(-1, x.empty(0, q));
                due(-1, x.holder(0, q));
                due(-1, x.held(0, q));
                due(-1, x.fill(q));
                due(-1, x.room(q));
                due(-1, x.numbers(q, 0, 5));
                dueThrow(IllegalArgumentException.class, () -> x.owes(0, q));
                due(-1, x.keep(0, 4, q));
            }
            for (int q = 0; q <= 99; q += 99) {
                due(0, x.span(0, 0, 0, q));
                due(q == 0 ? 1 : 2, x.miss(0, q));
                due(q, x.step(0, q));
                due(q == 0 ? 2 : 0, x.grade(0, q, 0));
                due(q == 0 ? 1 : 2, x.law(5, 0, q, 1));
                due(q == 0 ? 1 : 0, x.holds(0, q));
                due(2, x.could(0, 0, q));
                due(-2, x.put(0, 0, q));
                due(0, x.holder(0, q));
                due(0, x.empty(0, q));
                // What he held in 99 is not ahead of it; that of 0, filled below, is.
                due(q == 0 ? 0 : 1, x.held(0, q));
                due(1, x.room(q));
                due(1, x.fill(q));
                due(q == 0 ? 1 : 0, x.numbers(q, 0, 5));
                due(0, x.keep(0, 4, q));
            }
            due(0, x.owes(0, 0));
            // Steps 1 .. 12, each less 1, and 11 from then on; of 99 two rites are missed.
            due(66 + 87 * 11, x.owes(0, 99));
        });
    }

    private static void manRefused(AgeSets x, int man) {
        due(-1, x.son(man, 40, 50));
        due(-1, x.span(man, 0, 0, 0));
        due(-1, x.death(man, 800));
        due(-1, x.miss(man, 0));
        due(-1, x.about(man, 1));
        dueThrow(IllegalArgumentException.class, () -> x.step(man, 0));
        due(-1, x.grade(man, 0, 0));
        due(-1, x.born(man, 2));
        due(-1, x.forefather(man, 0));
        due(-1, x.forefather(0, man));
        due(-1, x.could(man, 0, 0));
        due(-1, x.put(man, 0, 0));
        due(-1, x.held(man, 0));
        due(-1, x.may(man, 0));
        due(-1, x.marry(man, 0));
        dueThrow(IllegalArgumentException.class, () -> x.owes(man, 0));
        due(-1, x.pay(man, 1));
    }

    private static void men() {
        says("MEN 0 .. 39 as they come", () -> {
            AgeSets none = new AgeSets();
            manRefused(none, 0);
            manRefused(none, -1);
            AgeSets x = withMen(39);
            manRefused(x, 39);
            due(39, x.man(0, 0, 0));
            manRefused(x, -1);
            manRefused(x, 40);
            manRefused(x, LEAST);
            manRefused(x, GREATEST);
            due(-2, x.son(39, 40, 50));
            due(0, x.span(39, 0, 0, 0));
            due(800, x.death(39, 800));
            due(0, x.about(39, 1));
            due(0, x.step(39, 0));
            due(2, x.grade(39, 0, 0));
            due(2, x.born(39, 2));
            due(39, x.forefather(39, 39));
            due(2, x.could(39, 0, 0));
            due(-2, x.put(39, 0, 0));
            due(0, x.held(39, 0));
            due(2, x.may(39, 0));
            due(2, x.marry(39, 0));
            due(0, x.owes(39, 0));
            due(1, x.pay(39, 1));
            due(1, x.miss(39, 0));
        });
        says("a BIRTH that lies between two YEARS told (first, last)", () -> {
            AgeSets x = new AgeSets();
            due(0, x.man(0, 7, 8));
            due(7, x.about(0, 2));
            due(8, x.about(0, 3));
            // Both ends may be the year: 7 is in period 0, 8 in period 1.
            due(1, x.grade(0, 1, 1));
            due(1, x.grade(0, 1, 0));
        });
        says("in a HALF (0, 1; a son in his FATHER's)", () -> {
            AgeSets x = new AgeSets();
            due(-1, x.man(-1, 0, 0));
            due(-1, x.man(2, 0, 0));
            due(0, x.man(0, 0, 0));
            due(1, x.man(1, 0, 0));
            due(2, x.son(0, 40, 40));
            due(3, x.son(1, 40, 40));
            due(4, x.son(3, 80, 80));
            int[] halves = {0, 1, 0, 1, 1};
            for (int man = 0; man < halves.length; man++) {
                due(halves[man], x.about(man, 1));
            }
        });
    }

    private static void steps() {
        says("STEP of one without FATHER: q less the PERIOD of his BIRTH", () -> {
            AgeSets x = new AgeSets();
            x.man(0, 0, 0);
            x.man(0, 799, 799);
            due(0, x.step(0, 0));
            due(99, x.step(0, 99));
            due(-99, x.step(1, 0));
            due(0, x.step(1, 99));
        });
        says("STEP of a son: his FATHER's STEP in q less 5", () -> {
            AgeSets x = new AgeSets();
            x.man(0, 0, 0);
            for (int father = 0; father < 39; father++) {
                due(father + 1, x.son(father, 0, 1));
            }
            for (int man = 0; man < 40; man++) {
                due(-5 * man, x.step(man, 0));
                due(99 - 5 * man, x.step(man, 99));
            }
            // Forty men in line: the last is never above grade 0.
            due(2, x.grade(39, 99, 0));
            due(0, x.owes(39, 99));
        });
        says("A FATHER's BIRTH is here always the first YEAR told; so a son's STEP is one number", () -> {
            AgeSets x = new AgeSets();
            x.man(0, 8, 799);
            x.son(0, 48, 700);
            due(4, x.step(1, 10));
            due(2, x.grade(1, 10, 4));
            x.span(0, 8, 8, 0);
            due(4, x.step(1, 10));
            x.span(0, 7, 799, 0);
            due(5, x.step(1, 10));
            due(2, x.grade(1, 10, 5));
        });
        says("that of a man without FATHER may be one of several for himself", () -> {
            AgeSets x = new AgeSets();
            x.man(0, 8, 24);
            for (int grade = 0; grade < 12; grade++) {
                due(grade >= 7 && grade <= 9 ? 1 : 0, x.grade(0, 10, grade));
            }
        });
    }

    private static void grades() {
        says("GRADE: less 1 for each RITE that he missed in q or before", () -> {
            AgeSets x = withMen(1);
            x.miss(0, 5);
            x.miss(0, 5);
            x.miss(0, 7);
            due(2, x.grade(0, 4, 4));
            due(2, x.grade(0, 5, 3));
            due(2, x.grade(0, 6, 4));
            due(2, x.grade(0, 7, 4));
            due(2, x.grade(0, 8, 5));
            // The step itself is not less by it.
            due(5, x.step(0, 5));
        });
        says("of all that 0 at least", () -> {
            AgeSets x = withMen(1);
            x.miss(0, 0);
            x.miss(0, 2);
            x.miss(0, 2);
            due(2, x.grade(0, 0, 0));
            due(2, x.grade(0, 1, 0));
            due(2, x.grade(0, 2, 0));
            due(2, x.grade(0, 3, 0));
            due(2, x.grade(0, 4, 1));
            x.son(0, 0, 1);
            due(2, x.grade(1, 0, 0));
            due(2, x.grade(1, 5, 0));
            due(2, x.grade(1, 6, 1));
        });
        says("of all that 11 at most", () -> {
            AgeSets x = withMen(1);
            due(2, x.grade(0, 10, 10));
            due(2, x.grade(0, 11, 11));
            due(2, x.grade(0, 12, 11));
            due(2, x.grade(0, 99, 11));
            x.miss(0, 0);
            due(2, x.grade(0, 11, 10));
            due(2, x.grade(0, 12, 11));
            due(2, x.grade(0, 13, 11));
        });
    }

    private static void lives() {
        says("He LIVES in a PERIOD, if the first YEAR of his BIRTH is in it or before", () -> {
            AgeSets x = new AgeSets();
            x.man(0, 23, 799);
            x.son(0, 24, 700);
            due(-4, x.grade(0, 1, 0));
            due(1, x.grade(0, 3, 1));
            due(2, x.grade(0, 2, 0));
            due(-4, x.grade(1, 2, 0));
            due(2, x.grade(1, 3, 0));
        });
        says("and he isn't dead in its first YEAR", () -> {
            AgeSets x = withMen(1);
            int[] deaths = {0, 1, 15, 16, 17, 792, 793, 800};
            int[] lastPeriods = {-1, 0, 1, 1, 2, 98, 99, 99};
            for (int k = 0; k < deaths.length; k++) {
                x.death(0, deaths[k]);
                for (int q : new int[] {0, 1, 2, 98, 99}) {
                    due(q <= lastPeriods[k] ? 2 : 0, x.could(0, 0, q));
                }
            }
            // Dead ahead of his own birth: he lives nowhere.
            x.span(0, 80, 80, 0);
            x.death(0, 80);
            for (int q = 8; q < 12; q++) {
                due(-4, x.grade(0, q, 0));
            }
            x.death(0, 81);
            due(2, x.grade(0, 10, 0));
            due(-4, x.grade(0, 11, 0));
        });
    }

    /** Father born in period 1; his son in one of these years, of which each is in another period. */
    private static AgeSets sonBornIn(int first, int last) {
        AgeSets x = new AgeSets();
        x.man(0, 8, 8);
        x.son(0, first, last);
        return x;
    }

    private static void bornDue(AgeSets x, int man, int early, int late, int inTime) {
        due(early, x.born(man, 0));
        due(late, x.born(man, 1));
        due(inTime, x.born(man, 2));
    }

    private static void births() {
        says("A son is EARLY, if his FATHER's STEP in the PERIOD of his BIRTH is below 5", () -> {
            bornDue(sonBornIn(9, 9), 1, 2, 0, 0);
            bornDue(sonBornIn(0, 9), 1, 2, 0, 0);
            bornDue(sonBornIn(47, 47), 1, 2, 0, 0);
            bornDue(sonBornIn(40, 47), 1, 2, 0, 0);
            bornDue(sonBornIn(48, 48), 1, 0, 0, 2);
        });
        says("LATE, if it is above 10", () -> {
            bornDue(sonBornIn(95, 95), 1, 0, 0, 2);
            bornDue(sonBornIn(96, 96), 1, 0, 2, 0);
            bornDue(sonBornIn(799, 799), 1, 0, 2, 0);
        });
        says("else IN TIME", () -> bornDue(sonBornIn(48, 95), 1, 0, 0, 2));
        says("others are IN TIME", () -> {
            AgeSets x = new AgeSets();
            x.man(0, 0, 0);
            x.man(1, 0, 799);
            x.man(1, 799, 799);
            for (int man = 0; man < 3; man++) {
                bornDue(x, man, 0, 0, 2);
            }
        });
        says("Of what hangs on a BIRTH that isn't known: SURELY, PERHAPS, NOT", () -> {
            bornDue(sonBornIn(47, 48), 1, 1, 0, 1);
            bornDue(sonBornIn(95, 96), 1, 0, 1, 1);
            bornDue(sonBornIn(47, 96), 1, 1, 1, 1);
            bornDue(sonBornIn(0, 799), 1, 1, 1, 1);
        });
        says("for each YEAR that may be (of its span as told, whatever else is told)", () -> {
            // Neither his death nor his father's, nor his father's birth, shortens the span.
            AgeSets x = sonBornIn(40, 799);
            x.death(1, 41);
            x.death(0, 42);
            bornDue(x, 1, 1, 1, 1);
            AgeSets y = sonBornIn(0, 48);
            bornDue(y, 1, 1, 0, 1);
            // A man who lives in a period may yet be born after it: his grade is 0 by such years.
            AgeSets z = new AgeSets();
            z.man(0, 0, 16);
            due(1, z.grade(0, 1, 0));
            due(1, z.grade(0, 1, 1));
            due(0, z.grade(0, 1, 2));
            z.span(0, 8, 16, 0);
            due(2, z.grade(0, 1, 0));
        });
    }

    // ---- 2

    private static void offices() {
        says("OFFICES 0 .. 5", () -> {
            AgeSets x = withMen(1);
            for (int office : new int[] {-1, 6, LEAST, GREATEST}) {
                due(-1, x.could(0, office, 0));
                due(-1, x.put(0, office, 0));
                due(-1, x.empty(office, 0));
                due(-1, x.holder(office, 0));
                due(-1, x.keep(0, 3, office));
            }
            for (int office = 0; office < 6; office++) {
                due(2, x.could(0, office, office));
                due(-2, x.put(0, office, office));
                due(0, x.holder(office, office));
                due(0, x.keep(0, 3, office));
                due(0, x.element(0, office));
                due(0, x.empty(office, office));
            }
        });
        says("in each PERIOD one man HOLDS each, or nobody (at first)", () -> {
            for (int office = 0; office < 6; office++) {
                AgeSets x = withMen(2);
                for (int q = 0; q < 100; q++) {
                    due(-2, x.holder(office, q));
                }
                due(-2, x.put(0, office, 50));
                due(0, x.put(1, office, 50));
                due(1, x.holder(office, 50));
                due(1, x.count(2));
                due(-2, x.holder(office, 49));
                due(-2, x.holder(office, 51));
            }
        });
    }

    private static void lawsHold() {
        says("LAWS 0 .. 15 as they come", () -> {
            AgeSets x = new AgeSets();
            due(-1, x.holds(0, 0));
            due(-1, x.keep(0, 1, 0));
            for (int law = 0; law < 16; law++) {
                due(law, x.law(50, 0, law, 1));
            }
            due(-2, x.law(50, 0, 0, 1));
            for (int law = 0; law < 16; law++) {
                due(1, x.holds(law, law));
                due(0, x.holds(law, law + 1));
                due(0, x.keep(0, 1, law));
            }
            for (int law : new int[] {-1, 16, LEAST, GREATEST}) {
                due(-1, x.holds(law, 0));
                due(-1, x.keep(0, 1, law));
            }
        });
        says("it holds from that one on, for 1 .. 20 PERIODS", () -> {
            AgeSets x = withMen(1);
            due(-1, x.law(0, 11, 3, 0));
            due(-1, x.law(0, 11, 3, 21));
            due(-1, x.law(0, 11, 3, -1));
            due(-1, x.law(0, 11, 3, LEAST));
            due(-1, x.law(0, 11, 3, GREATEST));
            due(0, x.law(0, 11, 3, 1));
            due(1, x.law(1, 11, 3, 20));
            due(2, x.law(2, 11, 99, 20));
            due(3, x.law(3, 11, 0, 1));
            int[] periods = {0, 1, 2, 3, 4, 22, 23, 98, 99};
            int[][] holds = {
                {0, 0, 0, 1, 0, 0, 0, 0, 0},
                {0, 0, 0, 1, 1, 1, 0, 0, 0},
                {0, 0, 0, 0, 0, 0, 0, 0, 1},
                {1, 0, 0, 0, 0, 0, 0, 0, 0}
            };
            for (int law = 0; law < 4; law++) {
                for (int k = 0; k < periods.length; k++) {
                    due(holds[law][k], x.holds(law, periods[k]));
                    int grade = Math.min(11, periods[k]);
                    due(holds[law][k] == 1 && grade < 11 ? 0 : 2, x.could(0, law, periods[k]));
                }
            }
        });
    }

    private static void kindsOfGrade() {
        says("0 GRADE o n: who HOLDS o is of GRADE n or above in that PERIOD", () -> {
            AgeSets x = withMen(1);
            x.law(0, 5, 0, 20);
            x.law(1, 0, 0, 20);
            x.law(2, 11, 0, 20);
            due(0, x.could(0, 0, 4));
            due(2, x.could(0, 0, 5));
            due(2, x.could(0, 0, 6));
            due(2, x.could(0, 0, 19));
            due(2, x.could(0, 1, 0));
            due(0, x.could(0, 2, 10));
            due(2, x.could(0, 2, 11));
            due(2, x.could(0, 2, 12));
            // Born in period 0 or 1.
            x.span(0, 0, 8, 0);
            due(0, x.could(0, 0, 4));
            due(1, x.could(0, 0, 5));
            due(2, x.could(0, 0, 6));
        });
        says("1 MOST o n: of GRADE n or below", () -> {
            AgeSets x = withMen(1);
            x.law(10, 5, 0, 20);
            x.law(11, 0, 0, 20);
            x.law(12, 11, 0, 20);
            due(2, x.could(0, 0, 0));
            due(2, x.could(0, 0, 4));
            due(2, x.could(0, 0, 5));
            due(0, x.could(0, 0, 6));
            due(2, x.could(0, 1, 0));
            due(0, x.could(0, 1, 1));
            due(2, x.could(0, 2, 19));
            x.span(0, 0, 8, 0);
            due(2, x.could(0, 0, 5));
            due(1, x.could(0, 0, 6));
            due(0, x.could(0, 0, 7));
        });
        says("5 MARRY n: who marries is of GRADE n or above (it is of no OFFICE)", () -> {
            AgeSets x = withMen(1);
            x.law(50, 5, 0, 20);
            due(0, x.may(0, 39));
            due(2, x.may(0, 40));
            due(2, x.may(0, 48));
            for (int office = 0; office < 6; office++) {
                due(2, x.could(0, office, 4));
            }
            due(1, x.law(50, 11, 7, 1));
            due(0, x.may(0, 63));
            due(2, x.may(0, 64));
            x.span(0, 0, 8, 0);
            due(1, x.may(0, 47));
            due(2, x.may(0, 48));
            due(-1, x.law(51, 5, 0, 20));
            due(-1, x.law(55, 5, 0, 20));
        });
    }

    private static void kindsOfTurnHalfAndTime() {
        says("2 TURN o n: he held o in none of the n PERIODS before", () -> {
            AgeSets x = withMen(2);
            x.law(21, 1, 40, 20);
            x.law(22, 20, 40, 20);
            x.put(0, 1, 45);
            x.put(0, 2, 45);
            // He may hold it himself in that period: those before are asked.
            due(0, x.could(0, 3, 45));
            due(2, x.could(0, 1, 44));
            x.empty(2, 45);
            due(2, x.could(0, 1, 45));
            due(0, x.could(0, 1, 46));
            due(2, x.could(0, 1, 47));
            due(2, x.could(1, 1, 46));
            due(2, x.could(0, 3, 46));
            x.put(0, 2, 39);
            due(2, x.could(0, 2, 39));
            due(0, x.could(0, 2, 40));
            due(0, x.could(0, 2, 59));
            due(2, x.could(0, 2, 60));
            AgeSets y = withMen(1);
            y.law(23, 20, 0, 20);
            y.put(0, 3, 0);
            due(2, y.could(0, 3, 0));
            for (int q = 1; q < 20; q++) {
                due(0, y.could(0, 3, q));
            }
            AgeSets z = withMen(1);
            z.law(23, 2, 5, 20);
            z.put(0, 3, 6);
            due(0, z.could(0, 3, 7));
            due(0, z.could(0, 3, 8));
            due(2, z.could(0, 3, 9));
        });
        says("(also such in which the law did not hold yet)", () -> {
            AgeSets x = withMen(1);
            x.put(0, 4, 8);
            x.law(24, 3, 10, 1);
            due(2, x.could(0, 4, 9));
            due(0, x.could(0, 4, 10));
            due(2, x.could(0, 4, 11));
        });
        says("3 HALVES o: he is of HALF 0 in even PERIODS, 1 in odd ones", () -> {
            AgeSets x = new AgeSets();
            x.man(0, 0, 799);
            x.man(1, 0, 799);
            x.law(30, 0, 0, 20);
            x.law(30, 0, 80, 20);
            for (int q : new int[] {0, 1, 2, 19, 80, 98, 99}) {
                due(q % 2 == 0 ? 2 : 0, x.could(0, 0, q));
                due(q % 2 == 0 ? 0 : 2, x.could(1, 0, q));
            }
        });
        says("4 TIME o: he is IN TIME", () -> {
            int[] firsts = {9, 47, 47, 48, 95, 95, 96, 47};
            int[] lasts = {47, 47, 48, 95, 95, 96, 200, 96};
            int[] could = {0, 0, 1, 2, 2, 1, 0, 1};
            for (int k = 0; k < firsts.length; k++) {
                AgeSets x = sonBornIn(firsts[k], lasts[k]);
                x.law(45, 0, 90, 20);
                due(could[k], x.could(1, 5, 99));
                due(2, x.could(1, 4, 99));
                due(2, x.could(0, 5, 99));
            }
        });
    }

    private static void couldHe() {
        says("COULD he HOLD o in PERIOD q: NOT, if he doesn't LIVE in it", () -> {
            AgeSets x = new AgeSets();
            x.man(0, 16, 16);
            x.death(0, 33);
            int[] could = {0, 0, 2, 2, 2, 0};
            for (int q = 0; q < could.length; q++) {
                due(could[q], x.could(0, 0, q));
            }
        });
        says("or HOLDS another OFFICE in it", () -> {
            AgeSets x = withMen(2);
            x.put(0, 5, 7);
            for (int office = 0; office < 5; office++) {
                due(0, x.could(0, office, 7));
                due(2, x.could(0, office, 6));
                due(2, x.could(0, office, 8));
                due(2, x.could(1, office, 7));
            }
            due(2, x.could(0, 5, 7));
            // Somebody else's holding is no hindrance.
            due(2, x.could(1, 5, 7));
        });
        says("else by the LAWS of o that hold in q", () -> {
            AgeSets x = withMen(1);
            due(2, x.could(0, 3, 2));
            x.law(4, 11, 0, 20);
            x.law(2, 11, 0, 20);
            x.law(3, 11, 0, 2);
            x.law(3, 11, 3, 2);
            due(2, x.could(0, 3, 2));
            due(0, x.could(0, 3, 1));
            due(0, x.could(0, 3, 3));
        });
        says("NOT if some law is kept for no YEAR of BIRTH that may be", () -> {
            for (int order = 0; order < 2; order++) {
                AgeSets x = new AgeSets();
                x.man(0, 0, 8);
                // At period 5 he is of grade 4 or 5.
                x.law(order == 0 ? 0 : 10, order == 0 ? 5 : 3, 0, 20);
                x.law(order == 0 ? 10 : 0, order == 0 ? 3 : 5, 0, 20);
                due(0, x.could(0, 0, 5));
            }
        });
        says("SURELY, if all are kept for each; else PERHAPS", () -> {
            for (int order = 0; order < 2; order++) {
                AgeSets x = new AgeSets();
                x.man(0, 0, 8);
                x.law(0, order == 0 ? 4 : 5, 0, 20);
                x.law(0, order == 0 ? 5 : 4, 0, 20);
                due(0, x.could(0, 0, 3));
                due(1, x.could(0, 0, 5));
                due(2, x.could(0, 0, 6));
            }
        });
        says("(So PERHAPS though no YEAR keeps all of them.)", () -> {
            AgeSets x = new AgeSets();
            x.man(0, 0, 8);
            x.law(0, 5, 0, 20);
            x.law(10, 4, 0, 20);
            due(1, x.could(0, 0, 5));
            due(0, x.could(0, 0, 4));
            due(0, x.could(0, 0, 6));
        });
    }

    private static void mayHe() {
        says("MAY he marry in a YEAR: NOT, if he doesn't LIVE in its PERIOD", () -> {
            AgeSets x = new AgeSets();
            x.man(0, 23, 23);
            x.death(0, 33);
            due(0, x.may(0, 15));
            // The year itself is not asked: 16 is ahead of his birth, 39 after his death.
            due(2, x.may(0, 16));
            due(2, x.may(0, 39));
            due(0, x.may(0, 40));
        });
        says("or has somebody", () -> {
            AgeSets x = withMen(2);
            due(2, x.marry(0, 0));
            due(0, x.may(0, 0));
            due(0, x.may(0, 799));
            due(2, x.may(1, 0));
        });
        says("else by LAWS of MARRY that hold in it likewise", () -> {
            AgeSets x = new AgeSets();
            x.man(0, 0, 8);
            x.law(50, 5, 5, 2);
            x.law(50, 0, 0, 20);
            // No law of an office is asked, nor what office he holds.
            x.law(0, 11, 0, 20);
            x.law(45, 0, 0, 20);
            x.put(0, 0, 4);
            due(2, x.may(0, 39));
            due(1, x.may(0, 40));
            due(1, x.may(0, 47));
            due(2, x.may(0, 48));
            due(2, x.may(0, 56));
            x.law(50, 6, 5, 1);
            due(0, x.may(0, 40));
        });
    }

    // ---- fillings and breaches

    /** Each of these offices is closed to all: its holder would have to be both above and below. */
    private static void close(AgeSets x, int... offices) {
        for (int office : offices) {
            x.law(office, 11, 0, 20);
            x.law(10 + office, 10, 0, 20);
        }
    }

    private static void holdersDue(AgeSets x, int period, int... holders) {
        for (int office = 0; office < holders.length; office++) {
            due(holders[office], x.holder(office, period));
        }
    }

    private static void fillings() {
        says("FILLING: to OFFICES that nobody HOLDS", () -> {
            AgeSets x = withMen(12);
            for (int office = 0; office < 6; office++) {
                due(6 - office, x.room(9));
                due(-2, x.put(11 - office, office, 9));
            }
            due(0, x.room(9));
            due(0, x.fill(9));
            holdersDue(x, 9, 11, 10, 9, 8, 7, 6);
            x.empty(3, 9);
            due(1, x.fill(9));
            holdersDue(x, 9, 11, 10, 9, 0, 7, 6);
        });
        says("men who SURELY COULD", () -> {
            AgeSets x = new AgeSets();
            due(0, x.room(5));
            due(0, x.fill(5));
            x.man(0, 0, 8);
            close(x, 1, 2, 3, 4, 5);
            x.law(0, 5, 0, 20);
            due(1, x.could(0, 0, 5));
            due(0, x.room(5));
            due(0, x.fill(5));
            due(-2, x.holder(0, 5));
            due(2, x.could(0, 0, 6));
            due(1, x.fill(6));
            due(0, x.holder(0, 6));
            // Who doesn't live gets nothing.
            x.death(0, 64);
            due(0, x.fill(8));
            x.death(0, 65);
            due(1, x.fill(8));
        });
        says("and HOLD none in it", () -> {
            AgeSets x = withMen(2);
            x.put(0, 5, 3);
            x.put(1, 5, 2);
            due(1, x.fill(3));
            holdersDue(x, 3, 1, -2, -2, -2, -2, 0);
        });
        says("each in one at most", () -> {
            AgeSets x = withMen(1);
            due(1, x.fill(0));
            holdersDue(x, 0, 0, -2, -2, -2, -2, -2);
            due(0, x.fill(0));
            due(1, x.fill(99));
            due(2, x.count(2));
        });
        says("as many OFFICES as can be", () -> {
            for (int men = 0; men <= 8; men++) {
                AgeSets x = withMen(men);
                due(Math.min(men, 6), x.room(4));
                due(Math.min(men, 6), x.fill(4));
                for (int office = 0; office < 6; office++) {
                    due(office < men ? office : -2, x.holder(office, 4));
                }
            }
            AgeSets full = withMen(40);
            due(6, full.fill(4));
            holdersDue(full, 4, 0, 1, 2, 3, 4, 5);
        });
    }

    /** In period 11, 12, ..: man 0 of grade 5, man 1 of grade 2, man 2 of grade 8, in period 11. */
    private static AgeSets threeGrades() {
        AgeSets x = new AgeSets();
        x.man(0, 48, 48);
        x.man(0, 72, 72);
        x.man(0, 24, 24);
        return x;
    }

    private static void leastMen() {
        says("each gets the least man with whom that greatest number can still be had", () -> {
            // Office 0 is open to men 0 and 1, 1 to men 0 and 2, 2 to man 0 alone.
            AgeSets x = threeGrades();
            x.law(10, 5, 0, 20);
            x.law(1, 5, 0, 20);
            x.law(2, 5, 0, 20);
            x.law(12, 5, 0, 20);
            close(x, 3, 4, 5);
            due(3, x.room(11));
            due(3, x.fill(11));
            holdersDue(x, 11, 1, 2, 0, -2, -2, -2);
            // With office 2 closed too man 0 is free for office 0.
            AgeSets y = threeGrades();
            y.law(10, 5, 0, 20);
            y.law(1, 5, 0, 20);
            close(y, 2, 3, 4, 5);
            due(2, y.fill(11));
            holdersDue(y, 11, 0, 2, -2, -2, -2, -2);
        });
        says("(with those put in before)", () -> {
            // Man 0 takes office 0; of offices 1 and 2, open to him and man 1 alone, one stays empty.
            AgeSets x = threeGrades();
            x.law(11, 5, 0, 20);
            x.law(12, 5, 0, 20);
            x.law(0, 5, 0, 20);
            x.law(10, 5, 0, 20);
            close(x, 3, 4, 5);
            due(2, x.fill(11));
            holdersDue(x, 11, 0, 1, -2, -2, -2, -2);
        });
        says("or nobody, if with none", () -> {
            AgeSets x = withMen(2);
            close(x, 0, 2, 4);
            due(2, x.fill(11));
            holdersDue(x, 11, -2, 0, -2, 1, -2, -2);
            // Forty men, and none of them for any office: all live, all are of grade 3.
            AgeSets y = withMen(40);
            for (int office = 0; office < 6; office++) {
                y.law(office, 4, 0, 20);
            }
            due(0, y.room(3));
            due(0, y.fill(3));
            due(0, y.count(2));
            due(6, y.fill(4));
        });
    }

    private static void breaches() {
        says("BREACHES: HOLDINGS that NOT could be", () -> {
            AgeSets x = new AgeSets();
            x.man(0, 0, 8);
            x.law(0, 5, 0, 20);
            for (int q = 3; q < 8; q++) {
                x.put(0, 0, q);
            }
            // 3 and 4 can't be; 5 is perhaps kept.
            due(2, x.breaches());
            due(30, x.breach(0));
            due(40, x.breach(1));
            due(-3, x.breach(2));
        });
        says("(each as if that OFFICE were empty in that PERIOD alone)", () -> {
            AgeSets x = withMen(1);
            x.put(0, 2, 50);
            due(0, x.breaches());
            // What he held in the period before stands while the one after is judged.
            x.law(22, 1, 40, 20);
            x.put(0, 2, 51);
            due(1, x.breaches());
            due(512, x.breach(0));
            x.put(0, 2, 52);
            due(2, x.breaches());
            x.empty(2, 51);
            due(0, x.breaches());
        });
        says("by PERIODS, OFFICES", () -> {
            AgeSets x = withMen(3);
            for (int man = 0; man < 3; man++) {
                x.death(man, 0);
            }
            x.put(0, 0, 99);
            x.put(1, 5, 99);
            x.put(2, 3, 0);
            x.put(1, 2, 0);
            x.put(0, 5, 0);
            x.put(0, 1, 7);
            int[] due = {2, 3, 5, 71, 990, 995};
            due(due.length, x.breaches());
            for (int i = 0; i < due.length; i++) {
                due(due[i], x.breach(i));
            }
            due(-3, x.breach(due.length));
        });
    }

    // ---- 3

    private static void otherRules() {
        says("sons d steps behind (d 1 .. 9; 5 is the rule)", () -> {
            AgeSets x = threeInLine();
            for (int d : new int[] {0, 10, -1, LEAST, GREATEST}) {
                due(-1, x.numbers(10, 0, d));
                due(-1, x.outside(d, 0));
                due(-1, x.outside(d, 1));
            }
            for (int d = 1; d <= 9; d++) {
                // In period 10 the steps are 10, 10 - d and 10 - 2 d.
                for (int grade = 0; grade < 12; grade++) {
                    int want = (grade == 10 ? 1 : 0) + (grade == 10 - d ? 1 : 0)
                            + (grade == Math.max(0, 10 - 2 * d) ? 1 : 0);
                    due(want, x.numbers(10, grade, d));
                }
            }
            // By the rule itself the grades are those that grade() tells.
            for (int man = 0; man < 3; man++) {
                due(2, x.grade(man, 10, 10 - 5 * man));
            }
        });
        says("EARLY below d, LATE above 2 d", () -> {
            for (int d = 1; d <= 9; d++) {
                int[] steps = {d - 1, d, 2 * d, 2 * d + 1};
                int[] early = {1, 0, 0, 0};
                int[] late = {0, 0, 0, 1};
                for (int k = 0; k < steps.length; k++) {
                    AgeSets x = new AgeSets();
                    x.man(0, 0, 0);
                    x.son(0, 8 * steps[k] + 7, 799);
                    due(early[k], x.outside(d, 0));
                    due(late[k], x.outside(d, 1));
                }
            }
        });
        says("all else likewise", () -> {
            AgeSets x = threeInLine();
            // Also by another rule rites are missed, and grades are from 0 to 11.
            x.miss(1, 9);
            due(2, x.numbers(10, 8, 1));
            due(0, x.numbers(10, 9, 1));
            due(1, x.numbers(10, 7, 2));
            due(0, x.numbers(10, 8, 2));
            due(3, x.numbers(99, 11, 9));
            due(2, x.numbers(10, 0, 9));
        });
        says("NUMBERS: of men who LIVE in a PERIOD those of a GRADE by such a rule", () -> {
            AgeSets x = withMen(3);
            x.death(0, 80);
            x.death(1, 81);
            x.span(2, 88, 88, 0);
            due(1, x.numbers(10, 10, 5));
            due(0, x.numbers(10, 0, 5));
            due(1, x.numbers(11, 0, 5));
            due(0, x.numbers(11, 11, 5));
        });
        says("(BIRTHS by their first YEARS, also their own)", () -> {
            AgeSets x = new AgeSets();
            x.man(0, 8, 799);
            due(1, x.numbers(10, 9, 5));
            for (int grade = 0; grade < 9; grade++) {
                due(0, x.numbers(10, grade, 5));
            }
            x.son(0, 48, 799);
            due(0, x.outside(5, 0));
            due(0, x.outside(5, 1));
            x.span(1, 47, 799, 0);
            due(1, x.outside(5, 0));
            due(0, x.outside(5, 1));
        });
    }

    private static void cattle() {
        says("CATTLE: a man owes in each PERIOD in which he LIVES as many as his GRADE", () -> {
            AgeSets x = withMen(1);
            long sum = 0;
            for (int q = 0; q < 100; q++) {
                sum += Math.min(q, 11);
                due(sum, x.owes(0, q));
            }
            x.death(0, 24);
            due(3, x.owes(0, 2));
            due(3, x.owes(0, 3));
            x.death(0, 25);
            due(6, x.owes(0, 3));
            due(6, x.owes(0, 99));
            x.death(0, 0);
            due(0, x.owes(0, 99));
        });
        says("(by first YEARS), from that of his BIRTH up to one (with it)", () -> {
            AgeSets x = new AgeSets();
            x.man(0, 15, 799);
            due(0, x.owes(0, 0));
            due(0, x.owes(0, 1));
            due(1, x.owes(0, 2));
            due(3, x.owes(0, 3));
            // A son's step is above 0 at his birth if he came late.
            x.son(0, 104, 104);
            due(0, x.owes(1, 12));
            due(7, x.owes(1, 13));
        });
        says("less what he paid (it may be below 0)", () -> {
            AgeSets x = withMen(2);
            x.pay(0, 1000);
            due(-1000, x.owes(0, 0));
            due(-999, x.owes(0, 1));
            due(1, x.owes(1, 1));
            for (int k = 0; k < 99; k++) {
                x.pay(0, 1000);
            }
            due(-100000, x.owes(0, 0));
        });
        says("LONG YEARS: those for which 7 y + 1, modulo 19, is below 7", () -> {
            AgeSets x = new AgeSets();
            for (int year = 0; year < 19; year++) {
                int due = (7 * year + 1) % 19 < 7 ? 1 : 0;
                due(due, x.moons(year, year));
                due(due, x.moons(year + 19, year + 19));
                due(due, x.moons(year + 760, year + 760));
            }
            // 7 * 11 + 1 leaves 2, 7 * 6 + 1 leaves 5, 7 * 9 + 1 leaves 7, 7 * 17 + 1 leaves 6.
            due(1, x.moons(11, 11));
            due(1, x.moons(6, 6));
            due(0, x.moons(9, 9));
            due(1, x.moons(17, 17));
            due(1, x.moons(0, 0));
            due(295, x.moons(0, 799));
        });
    }

    private static void shelves() {
        says("SHELVES 0 .. 7", () -> {
            AgeSets x = new AgeSets();
            for (int d : new int[] {-1, 8, LEAST, GREATEST}) {
                due(-1, x.keep(d, 0, 0));
                due(-1, x.make(d, 3, 1));
                dueThrow(IllegalArgumentException.class, () -> x.element(d, 0));
                due(-1, x.copy(d, 0, 0, 0, 0));
                due(-1, x.copy(0, 0, d, 0, 0));
                due(-1, x.weight(d));
                due(-1, x.toss(d));
            }
            for (int d = 0; d < 8; d++) {
                due(0, x.make(d, 3, d + 1));
            }
            for (int d = 0; d < 8; d++) {
                final int shelf = d;
                due(0, x.element(d, d));
                dueThrow(IllegalStateException.class, () -> x.element(shelf, shelf + 1));
                due(d + 1, x.copy(d, 0, d, 0, d + 1));
            }
        });
        says("each hold nothing (at first)", () -> {
            AgeSets x = new AgeSets();
            for (int d = 0; d < 8; d++) {
                final int shelf = d;
                due(-11, x.weight(d));
                due(-11, x.toss(d));
                due(-11, x.copy(d, 0, d, 0, 0));
                dueThrow(IllegalStateException.class, () -> x.element(shelf, 0));
            }
        });
        says("a LAW, a ROW of bytes or ints: another one takes the place of what is held", () -> {
            AgeSets x = withMen(1);
            x.law(3, 4, 0, 1);
            x.put(0, 3, 9);
            due(0, x.keep(5, 1, 0));
            due(414, x.weight(5));
            due(0, x.keep(5, 3, 3));
            due(-12, x.weight(5));
            due(0, x.element(5, 9));
            due(0, x.make(5, 4, 9));
            dueThrow(IllegalStateException.class, () -> x.element(5, 9));
            due(0, x.keep(5, 4, 9));
            due(1, x.element(5, 9));
            due(0, x.keep(5, 1, 0));
            due(3, x.toss(5));
            due(0, x.keep(5, 0, 0));
            due(-11, x.toss(5));
        });
    }

    public static void main(String[] args) {
        yearsAndPeriods();
        men();
        steps();
        grades();
        lives();
        births();
        offices();
        lawsHold();
        kindsOfGrade();
        kindsOfTurnHalfAndTime();
        couldHe();
        mayHe();
        fillings();
        leastMen();
        breaches();
        otherRules();
        cattle();
        shelves();
        tellEnd();
    }
}
