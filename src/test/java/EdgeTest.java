/** Of each sentence under a promise's heading that names a boundary case and is no refusal, checks of its own. */
public final class EdgeTest extends Checks {

    private static void newObject() {
        says("promise 1: No MEN, no LAWS.", () -> {
            AgeSets x = new AgeSets();
            due(0, x.count(0));
            due(0, x.count(1));
            due(0, x.count(2));
            due(0, x.count(3));
            due(0, x.count(4));
            due(0, x.breaches());
            due(-3, x.breach(0));
            due(0, x.numbers(0, 0, 5));
            due(0, x.outside(5, 0));
            due(0, x.outside(5, 1));
            due(0, x.room(0));
            due(0, x.fill(99));
            // Nothing of one object is another one's.
            AgeSets y = withMen(1);
            y.law(0, 0, 0, 1);
            y.make(0, 3, 1);
            y.put(0, 0, 0);
            due(0, x.count(0));
            due(0, x.count(1));
            due(-2, x.holder(0, 0));
            due(-11, x.weight(0));
        });
    }

    private static void menCome() {
        says("promise 2: A man without FATHER comes: his number.", () -> {
            AgeSets x = new AgeSets();
            for (int man = 0; man < 40; man++) {
                due(man, x.man(man % 2, man, 799 - man));
            }
            due(40, x.count(0));
            for (int man = 0; man < 40; man++) {
                due(-2, x.about(man, 0));
                due(man, x.about(man, 2));
                due(799 - man, x.about(man, 3));
            }
        });
        says("promise 2: first above last", () -> {
            AgeSets x = new AgeSets();
            due(-1, x.man(0, 5, 4));
            due(0, x.man(0, 5, 5));
            due(1, x.man(0, 5, 6));
        });
        says("promise 3: A son comes: his number.", () -> {
            AgeSets x = new AgeSets();
            x.man(1, 0, 0);
            for (int son = 1; son < 40; son++) {
                due(son, x.son(son - 1, 0, son));
                due(son - 1, x.about(son, 0));
                due(1, x.about(son - 1, 7));
            }
            due(0, x.about(39, 7));
            due(40, x.count(0));
        });
        says("promise 3: last is not above the first YEAR of his FATHER's BIRTH", () -> {
            AgeSets x = new AgeSets();
            x.man(0, 10, 30);
            due(-3, x.son(0, 10, 10));
            due(-3, x.son(0, 0, 10));
            due(-3, x.son(0, 9, 9));
            // His father's last year is not asked, nor whether first is above his father's.
            due(1, x.son(0, 11, 11));
            due(2, x.son(0, 10, 11));
            due(3, x.son(0, 0, 11));
        });
        says("promise 3: his FATHER was dead two YEARS and more ahead of first", () -> {
            AgeSets x = withMen(2);
            x.death(0, 50);
            due(2, x.son(0, 50, 50));
            due(3, x.son(0, 51, 51));
            due(4, x.son(0, 51, 799));
            due(-3, x.son(0, 52, 52));
            due(-3, x.son(0, 52, 799));
            due(-3, x.son(0, 53, 53));
            due(5, x.son(1, 799, 799));
            x.death(0, 0);
            due(6, x.son(0, 1, 1));
            due(-3, x.son(0, 2, 2));
            x.death(0, 797);
            due(-3, x.son(0, 799, 799));
            x.death(0, 798);
            due(7, x.son(0, 799, 799));
        });
    }

    private static void spans() {
        says("promise 4: how many men's GRADES in that PERIOD are others by it", () -> {
            AgeSets x = threeInLine();
            due(0, x.span(0, 0, 7, 11));
            due(0, x.span(0, 7, 7, 11));
            // His own, his son's and his son's son's.
            due(3, x.span(0, 8, 8, 11));
            due(8, x.about(0, 2));
            due(8, x.about(0, 3));
            // His span is taken also where nobody's grade is another one.
            due(0, x.span(0, 9, 700, 11));
            due(9, x.about(0, 2));
            due(700, x.about(0, 3));
        });
        says("promise 4: grades, not steps: 0 at least, 11 at most", () -> {
            AgeSets x = withMen(1);
            due(0, x.span(0, 8, 8, 12));
            due(1, x.span(0, 16, 16, 12));
            // From 10 to 0, from 0 to 1, from 1 to 11, and from 11 to 0.
            due(1, x.span(0, 96, 96, 12));
            due(1, x.span(0, 88, 88, 12));
            due(1, x.span(0, 0, 0, 12));
            due(1, x.span(0, 96, 96, 12));
            AgeSets y = withMen(1);
            y.son(0, 0, 1);
            // The son's step is below 0 by both.
            due(1, y.span(0, 8, 8, 4));
            due(1, y.span(0, 0, 0, 5));
            due(2, y.span(0, 8, 8, 6));
        });
        says("promise 4: of those who LIVE in a PERIOD both by the old span and by the new one", () -> {
            AgeSets x = withMen(1);
            due(0, x.span(0, 80, 80, 5));
            due(0, x.span(0, 0, 0, 5));
            due(1, x.span(0, 40, 40, 5));
            due(0, x.span(0, 48, 48, 5));
            // His son, who lives by both, is counted though he himself is not.
            x.son(0, 0, 49);
            x.span(0, 0, 0, 0);
            due(1, x.span(0, 100, 100, 6));
            x.death(1, 48);
            due(0, x.span(0, 0, 0, 6));
            due(48, x.death(1, 800));
            x.death(0, 48);
            // Dead himself by both, he has a son whose grade goes from 1 to 0.
            due(1, x.span(0, 8, 8, 6));
        });
        says("promise 4: by first YEARS, also their own", () -> {
            AgeSets x = withMen(1);
            due(0, x.span(0, 0, 799, 9));
            due(0, x.span(0, 0, 0, 9));
            // A son's grade doesn't hang on his own birth.
            x.son(0, 40, 40);
            due(0, x.span(1, 0, 0, 9));
            due(0, x.span(1, 70, 799, 9));
            // His father may come to be born long after him: from grade 4 he goes to 0.
            due(1, x.span(0, 700, 700, 9));
        });
    }

    private static void deathsAndRites() {
        says("promise 5: A DEATH (800: none): the one before (800)", () -> {
            AgeSets x = withMen(2);
            due(800, x.about(0, 4));
            due(800, x.death(0, 800));
            due(800, x.death(0, 0));
            due(0, x.death(0, 799));
            due(799, x.death(0, 799));
            due(799, x.death(0, 800));
            due(800, x.about(0, 4));
            due(800, x.death(1, 5));
        });
        says("promise 6: He missed a RITE in a PERIOD (once more): how many he missed in all", () -> {
            AgeSets x = withMen(2);
            for (int n = 1; n <= 20; n++) {
                due(n, x.miss(0, n <= 10 ? 99 : 4));
                due(n, x.about(0, 5));
            }
            due(-2, x.miss(0, 4));
            due(20, x.count(3));
            due(1, x.miss(1, 4));
            due(21, x.count(3));
            due(2, x.grade(0, 20, 10));
            due(2, x.grade(0, 99, 11));
            due(2, x.grade(0, 4, 0));
            due(2, x.grade(0, 3, 3));
        });
    }

    private static void abouts() {
        says("promise 7: 0 FATHER (-2), 1 HALF, 2, 3 BIRTH's first, last YEAR, 4 DEATH, 5 RITES missed", () -> {
            AgeSets x = new AgeSets();
            x.man(0, 0, 0);
            x.man(1, 3, 12);
            x.son(1, 50, 60);
            x.son(0, 50, 60);
            x.death(2, 0);
            x.miss(2, 4);
            int[][] due = {{-2, 0, 0, 0, 800, 0}, {-2, 1, 3, 12, 800, 0}, {1, 1, 50, 60, 0, 1}, {0, 0, 50, 60, 800, 0}};
            for (int man = 0; man < due.length; man++) {
                for (int what = 0; what < 6; what++) {
                    due(due[man][what], x.about(man, what));
                }
            }
        });
        says("promise 7: 6 the YEAR in which he married (-2: he has nobody)", () -> {
            AgeSets x = withMen(2);
            due(-2, x.about(0, 6));
            x.marry(0, 0);
            due(0, x.about(0, 6));
            x.marry(1, 799);
            due(799, x.about(1, 6));
        });
        says("promise 7: 7 how many sons", () -> {
            AgeSets x = withMen(1);
            for (int sons = 0; sons < 39; sons++) {
                due(sons, x.about(0, 7));
                x.son(0, 40, 40);
            }
            due(39, x.about(0, 7));
            due(-2, x.son(0, 40, 40));
            due(39, x.about(0, 7));
            AgeSets y = threeInLine();
            // A son's son is none of his.
            due(1, y.about(0, 7));
        });
    }

    private static void stepsAndForefathers() {
        says("promise 8: (any number; also of one who doesn't LIVE)", () -> {
            AgeSets x = new AgeSets();
            x.man(0, 799, 799);
            due(-99, x.step(0, 0));
            x.death(0, 0);
            due(0, x.step(0, 99));
            x.span(0, 0, 799, 0);
            due(99, x.step(0, 99));
            x.miss(0, 0);
            due(99, x.step(0, 99));
        });
        says("promise 11: each of two men, or his FATHER, or that one's, and so on, for both", () -> {
            AgeSets x = threeInLine();
            x.son(1, 90, 90);
            x.son(3, 130, 130);
            x.son(0, 40, 40);
            x.man(0, 0, 0);
            x.son(6, 40, 40);
            int[][] due = {
                {0, 0, 0, 0, 0, 0, -2, -2},
                {0, 1, 1, 1, 1, 0, -2, -2},
                {0, 1, 2, 1, 1, 0, -2, -2},
                {0, 1, 1, 3, 3, 0, -2, -2},
                {0, 1, 1, 3, 4, 0, -2, -2},
                {0, 0, 0, 0, 0, 5, -2, -2},
                {-2, -2, -2, -2, -2, -2, 6, 6},
                {-2, -2, -2, -2, -2, -2, 6, 7}
            };
            for (int man = 0; man < 8; man++) {
                for (int other = 0; other < 8; other++) {
                    due(due[man][other], x.forefather(man, other));
                }
            }
        });
        says("promise 11: a chain of forty", () -> {
            AgeSets x = withMen(1);
            for (int father = 0; father < 38; father++) {
                x.son(father, 0, 1);
            }
            x.son(0, 0, 1);
            due(37, x.forefather(38, 37));
            due(38, x.forefather(38, 38));
            due(0, x.forefather(38, 39));
            due(0, x.forefather(39, 38));
        });
    }

    private static void lawsTold() {
        says("promise 12: KIND and OFFICE told as 10 * KIND + OFFICE (of MARRY 50)", () -> {
            for (int kind = 0; kind < 5; kind++) {
                AgeSets x = new AgeSets();
                for (int office = 0; office < 6; office++) {
                    due(office, x.law(10 * kind + office, 1, 0, 1));
                    due(0, x.keep(office, 1, office));
                    due(office, x.toss(office));
                }
                due(6, x.law(50, 1, 0, 1));
                due(0, x.keep(6, 1, 6));
                due(-15, x.toss(6));
            }
        });
        says("promise 12: n (0 .. 11 of GRADE, MOST, MARRY; 1 .. 20 of TURN; else any)", () -> {
            AgeSets x = new AgeSets();
            int[] told = {0, 0, 10, 10, 50, 50, 20, 20, 30, 30, 40, 40, 30, 45};
            int[] n = {0, 11, 0, 11, 0, 11, 1, 20, LEAST, GREATEST, LEAST, GREATEST, -1, 21};
            for (int k = 0; k < told.length; k++) {
                due(k, x.law(told[k], n[k], 0, 1));
            }
        });
        says("promise 12: the PERIOD in which it is spoken, for how long", () -> {
            AgeSets x = new AgeSets();
            due(0, x.law(0, 0, 0, 1));
            due(1, x.law(0, 0, 0, 20));
            due(2, x.law(0, 0, 99, 1));
            due(3, x.law(0, 0, 99, 20));
            due(1, x.holds(0, 0));
            due(0, x.holds(0, 1));
            due(1, x.holds(1, 19));
            due(0, x.holds(1, 20));
            due(0, x.holds(2, 98));
            due(1, x.holds(2, 99));
            due(1, x.holds(3, 99));
        });
    }

    private static void holdings() {
        says("promise 15: He HOLDS an OFFICE in a PERIOD, laws or not", () -> {
            AgeSets x = new AgeSets();
            x.man(0, 799, 799);
            x.law(0, 11, 0, 20);
            x.law(30, 0, 0, 20);
            x.death(0, 0);
            due(0, x.could(0, 0, 1));
            due(-2, x.put(0, 0, 1));
            due(0, x.holder(0, 1));
            due(1, x.breaches());
        });
        says("promise 15: who HELD it (-2: nobody; it is his then)", () -> {
            AgeSets x = withMen(3);
            due(-2, x.put(0, 5, 99));
            due(0, x.holder(5, 99));
            due(0, x.put(2, 5, 99));
            due(2, x.holder(5, 99));
            due(2, x.put(2, 5, 99));
            due(1, x.count(2));
            // Who lost it holds nothing in that period.
            due(-2, x.put(0, 4, 99));
        });
        says("promise 16: Nobody HOLDS it: who did", () -> {
            AgeSets x = withMen(2);
            x.put(0, 0, 0);
            x.put(1, 5, 99);
            due(0, x.empty(0, 0));
            due(1, x.empty(5, 99));
            due(-2, x.holder(0, 0));
            due(-2, x.holder(5, 99));
            due(-3, x.empty(0, 0));
            due(0, x.count(2));
            due(-2, x.put(0, 1, 0));
        });
        says("promise 18: (each OFFICE in each PERIOD) in PERIODS before one", () -> {
            AgeSets x = withMen(2);
            for (int q = 0; q < 100; q++) {
                x.put(0, q % 6, q);
            }
            for (int q = 0; q < 100; q++) {
                due(q, x.held(0, q));
                due(0, x.held(1, q));
            }
            x.empty(0, 0);
            due(0, x.held(0, 1));
            due(98, x.held(0, 99));
        });
    }

    private static void fillings() {
        says("promise 19: how many OFFICES were filled by it (they are HELD then)", () -> {
            AgeSets x = withMen(4);
            x.put(3, 1, 0);
            due(3, x.fill(0));
            due(4, x.count(2));
            due(0, x.holder(0, 0));
            due(3, x.holder(1, 0));
            due(1, x.holder(2, 0));
            due(2, x.holder(3, 0));
            due(-2, x.holder(4, 0));
            due(4, x.fill(99));
            due(8, x.count(2));
            due(-2, x.holder(0, 98));
            due(1, x.held(0, 99));
        });
        says("promise 20: How many it would fill", () -> {
            AgeSets x = withMen(4);
            for (int q = 0; q < 100; q += 99) {
                due(4, x.room(q));
                due(4, x.room(q));
                due(q == 0 ? 0 : 4, x.count(2));
                due(4, x.fill(q));
                due(0, x.room(q));
            }
            // Fillings of a period ahead stand in the way by laws of TURN.
            x.law(20, 1, 1, 1);
            due(4, x.room(1));
            due(4, x.fill(1));
            due(1, x.holder(0, 1));
            due(0, x.holder(1, 1));
        });
    }

    private static void marriages() {
        says("promise 24: He marries, laws or not: what may() told", () -> {
            AgeSets x = new AgeSets();
            for (int man = 0; man < 3; man++) {
                x.man(0, 0, man == 1 ? 8 : 0);
            }
            x.law(50, 5, 0, 20);
            due(0, x.marry(0, 39));
            due(39, x.about(0, 6));
            due(1, x.marry(1, 40));
            due(2, x.marry(2, 40));
            due(3, x.count(4));
            for (int man = 0; man < 3; man++) {
                due(0, x.may(man, 40));
            }
        });
        says("promise 24: (the YEAR itself is not asked)", () -> {
            AgeSets x = new AgeSets();
            x.man(0, 23, 23);
            x.man(0, 0, 0);
            x.death(1, 17);
            due(-3, x.marry(0, 15));
            due(2, x.marry(0, 16));
            due(-3, x.marry(1, 24));
            due(2, x.marry(1, 23));
        });
        says("promise 24: he has somebody (by whatever YEAR)", () -> {
            AgeSets x = withMen(1);
            due(2, x.marry(0, 700));
            due(-3, x.marry(0, 699));
            due(-3, x.marry(0, 701));
            due(700, x.about(0, 6));
            due(1, x.count(4));
        });
    }

    private static void numbersOutsideBest() {
        says("promise 25: NUMBERS by a rule of d", () -> {
            AgeSets x = withMen(40);
            due(40, x.numbers(0, 0, 1));
            due(0, x.numbers(0, 1, 1));
            due(40, x.numbers(99, 11, 9));
            due(0, x.numbers(99, 10, 9));
            due(40, x.numbers(5, 5, 5));
        });
        says("promise 26: How many sons are EARLY, LATE by a rule of d (by first YEARS, also their own)", () -> {
            AgeSets x = new AgeSets();
            x.man(0, 8, 799);
            for (int son = 1; son < 40; son++) {
                x.son(0, 48, 799);
            }
            due(0, x.outside(5, 0));
            due(0, x.outside(5, 1));
            due(39, x.outside(6, 0));
            due(39, x.outside(2, 1));
            due(0, x.outside(3, 1));
            // Who has no father is never outside.
            for (int d = 1; d <= 9; d++) {
                due(0, withMen(40).outside(d, 0));
                due(0, withMen(40).outside(d, 1));
            }
        });
        says("promise 27: The d by which the fewest sons are outside", () -> {
            for (int d = 1; d <= 9; d++) {
                AgeSets x = new AgeSets();
                x.man(0, 0, 0);
                // Just d and no other keeps both.
                x.son(0, 8 * d, 8 * d);
                x.son(0, 16 * d, 16 * d);
                due(d, x.best());
            }
        });
        says("promise 27: of several the one nearest to 5", () -> {
            due(5, new AgeSets().best());
            due(5, withMen(2).best());
            for (int step = 1; step <= 18; step++) {
                AgeSets x = new AgeSets();
                x.man(0, 0, 0);
                x.son(0, 8 * step, 8 * step);
                // Kept by each d from half the step up to the step.
                due(step < 5 ? step : Math.max(5, (step + 1) / 2), x.best());
            }
            AgeSets y = new AgeSets();
            y.man(0, 0, 0);
            // No d keeps him.
            y.son(0, 7, 7);
            due(5, y.best());
            y.span(1, 8 * 19, 8 * 19, 0);
            due(5, y.best());
            AgeSets z = new AgeSets();
            z.man(0, 0, 0);
            z.son(0, 8, 8);
            z.son(0, 24, 24);
            // 1 keeps the one alone, 2 and 3 the other alone.
            due(3, z.best());
        });
        says("promise 27: then the lesser", () -> {
            AgeSets x = new AgeSets();
            x.man(0, 0, 0);
            x.son(0, 32, 32);
            x.son(0, 96, 96);
            // 4 keeps the one, 6 the other, 5 none.
            due(4, x.best());
            AgeSets y = new AgeSets();
            y.man(0, 0, 0);
            y.son(0, 24, 24);
            y.son(0, 112, 112);
            // 3 keeps the one, 7 the other, 4 .. 6 none.
            due(3, y.best());
            AgeSets z = new AgeSets();
            z.man(0, 0, 0);
            z.son(0, 8, 8);
            z.son(0, 144, 144);
            due(1, z.best());
        });
    }

    private static void cattleMoonsCounts() {
        says("promise 28: CATTLE that he owes up to a PERIOD", () -> {
            AgeSets x = new AgeSets();
            x.man(0, 799, 799);
            x.man(0, 0, 0);
            due(0, x.owes(0, 0));
            due(0, x.owes(0, 99));
            due(66 + 88 * 11, x.owes(1, 99));
            for (int n = 0; n < 20; n++) {
                x.miss(1, 0);
            }
            // Grade 0 up to step 20, 1 .. 11 up to step 31, then 11.
            due(0, x.owes(1, 20));
            due(1, x.owes(1, 21));
            due(66, x.owes(1, 31));
            due(66 + 68 * 11, x.owes(1, 99));
        });
        says("promise 29: He pays n (1 .. 1000): how many he paid in all", () -> {
            AgeSets x = withMen(2);
            due(1, x.pay(0, 1));
            due(1001, x.pay(0, 1000));
            due(1000, x.pay(1, 1000));
            due(-1001, x.owes(0, 0));
        });
        says("promise 29: above 100000", () -> {
            AgeSets x = withMen(1);
            for (int n = 1; n < 100; n++) {
                due(1000 * n, x.pay(0, 1000));
            }
            due(99999, x.pay(0, 999));
            due(-2, x.pay(0, 2));
            due(100000, x.pay(0, 1));
            due(-2, x.pay(0, 1));
            due(-100000, x.owes(0, 0));
        });
        says("promise 30: from one to another one (both with them)", () -> {
            AgeSets x = new AgeSets();
            // Long are 0, 3, 6, 8, 11, 14, 17 of each 19 years.
            due(1, x.moons(0, 0));
            due(1, x.moons(0, 2));
            due(2, x.moons(0, 3));
            due(2, x.moons(3, 6));
            due(0, x.moons(4, 5));
            due(7, x.moons(0, 18));
            due(7, x.moons(1, 19));
            due(8, x.moons(0, 19));
            due(295, x.moons(0, 799));
            due(294, x.moons(1, 799));
            due(1, x.moons(798, 798));
            due(0, x.moons(799, 799));
            due(1, x.moons(798, 799));
        });
        says("promise 31: 0 MEN, 1 LAWS, 2 HOLDINGS, 3 RITES missed, 4 men who have somebody", () -> {
            AgeSets x = withMen(40);
            for (int law = 0; law < 16; law++) {
                x.law(50, 0, 0, 1);
            }
            for (int man = 0; man < 40; man++) {
                x.put(man, man % 6, man);
                x.miss(man, 0);
                x.miss(man, 99);
                x.marry(man, 0);
            }
            due(40, x.count(0));
            due(16, x.count(1));
            due(40, x.count(2));
            due(80, x.count(3));
            due(40, x.count(4));
            x.put(1, 0, 0);
            due(40, x.count(2));
            x.empty(0, 0);
            due(39, x.count(2));
        });
        says("promise 31: all holdings of an office, of a period", () -> {
            AgeSets x = withMen(6);
            for (int q = 0; q < 60; q++) {
                due(6, x.fill(q));
            }
            due(360, x.count(2));
            AgeSets y = withMen(1);
            for (int q = 0; q < 100; q++) {
                y.put(0, 5, q);
            }
            due(100, y.count(2));
        });
    }

    private static void kept() {
        says("promise 32: what = 0 nothing (k does not matter)", () -> {
            AgeSets x = new AgeSets();
            for (int k : new int[] {0, -1, 100, LEAST, GREATEST}) {
                x.make(7, 3, 1);
                due(-12, x.weight(7));
                due(0, x.keep(7, 0, k));
                due(-11, x.weight(7));
            }
        });
        says("promise 32: 3 a ROW of bytes: who HOLDS OFFICE k, PERIOD by PERIOD (-1: nobody)", () -> {
            AgeSets x = withMen(40);
            x.put(0, 5, 0);
            x.put(39, 5, 99);
            x.put(1, 4, 50);
            due(0, x.keep(0, 3, 5));
            for (int q = 0; q < 100; q++) {
                due(q == 0 ? 0 : q == 99 ? 39 : -1, x.element(0, q));
            }
            dueThrow(IllegalStateException.class, () -> x.element(0, 100));
            // What is kept stays as it was, and what is written on it is no holding.
            x.empty(5, 0);
            due(0, x.element(0, 0));
            due(1, x.copy(0, 99, 0, 1, 1));
            due(-2, x.holder(5, 1));
            due(0, x.keep(1, 3, 5));
            due(-1, x.element(1, 0));
            due(-1, x.element(1, 1));
            due(39, x.element(0, 1));
        });
        says("promise 32: 4 a ROW of ints: NUMBERS of PERIOD k, GRADE by GRADE, by the rule of 5", () -> {
            AgeSets x = threeInLine();
            due(0, x.keep(0, 4, 0));
            due(0, x.keep(1, 4, 10));
            due(0, x.keep(2, 4, 99));
            for (int grade = 0; grade < 12; grade++) {
                due(grade == 0 ? 1 : 0, x.element(0, grade));
                due(grade % 5 == 0 ? 1 : 0, x.element(1, grade));
                due(grade == 11 ? 3 : 0, x.element(2, grade));
            }
            for (int d = 0; d < 3; d++) {
                final int shelf = d;
                dueThrow(IllegalStateException.class, () -> x.element(shelf, 12));
                dueThrow(IllegalStateException.class, () -> x.element(shelf, -1));
            }
        });
        says("promise 33: a ROW of n bytes, or ints, 0 (what 3, 4; n up to 60)", () -> {
            for (int what = 3; what <= 4; what++) {
                for (int n : new int[] {0, 1, 59, 60}) {
                    AgeSets x = new AgeSets();
                    due(0, x.make(0, what, n));
                    for (int i = 0; i < n; i++) {
                        due(0, x.element(0, i));
                    }
                    dueThrow(IllegalStateException.class, () -> x.element(0, n));
                    due(-12, x.toss(0));
                    // Of its kind: a row of the other one doesn't go with it.
                    due(0, x.make(1, what, 0));
                    due(0, x.copy(0, 0, 1, 0, 0));
                    due(0, x.make(1, 7 - what, 0));
                    due(-12, x.copy(0, 0, 1, 0, 0));
                }
            }
        });
        says("promise 33: made anew, all is 0 again", () -> {
            AgeSets x = withMen(1);
            x.keep(0, 3, 0);
            due(0, x.make(1, 3, 2));
            due(2, x.copy(0, 0, 1, 0, 2));
            due(-1, x.element(1, 1));
            due(0, x.make(1, 3, 2));
            due(0, x.element(1, 1));
            due(0, x.make(1, 4, 60));
            due(0, x.element(1, 1));
        });
    }

    /** On shelf 0 a row of bytes: 0, 1, 2, .. 9, then -1. */
    private static AgeSets countedRow() {
        AgeSets x = withMen(10);
        for (int man = 0; man < 10; man++) {
            x.put(man, 0, man);
        }
        x.keep(0, 3, 0);
        return x;
    }

    private static void rowDue(AgeSets x, int d, int... elements) {
        for (int i = 0; i < elements.length; i++) {
            due(elements[i], x.element(d, i));
        }
    }

    private static void copies() {
        says("promise 35: n elements from place i come to place j (as they all were before)", () -> {
            AgeSets forward = countedRow();
            due(5, forward.copy(0, 0, 0, 2, 5));
            rowDue(forward, 0, 0, 1, 0, 1, 2, 3, 4, 7, 8, 9, -1);
            AgeSets back = countedRow();
            due(5, back.copy(0, 2, 0, 0, 5));
            rowDue(back, 0, 2, 3, 4, 5, 6, 5, 6, 7, 8, 9, -1);
            AgeSets same = countedRow();
            due(100, same.copy(0, 0, 0, 0, 100));
            rowDue(same, 0, 0, 1, 2, 3, 4, 5, 6, 7, 8, 9, -1);
        });
        says("promise 35: of the ROW on SHELF d to the ROW on SHELF e", () -> {
            AgeSets x = countedRow();
            x.make(1, 3, 5);
            due(3, x.copy(0, 7, 1, 1, 3));
            rowDue(x, 1, 0, 7, 8, 9, 0);
            rowDue(x, 0, 0, 1, 2, 3, 4, 5, 6, 7, 8, 9, -1);
            due(5, x.copy(0, 95, 1, 0, 5));
            rowDue(x, 1, -1, -1, -1, -1, -1);
            due(5, x.copy(1, 0, 0, 95, 5));
            due(1, x.copy(0, 4, 1, 4, 1));
            rowDue(x, 1, -1, -1, -1, -1, 4);
        });
        says("promise 35: also of ints", () -> {
            AgeSets x = threeInLine();
            x.keep(0, 4, 10);
            x.make(1, 4, 3);
            due(2, x.copy(0, 10, 1, 1, 2));
            rowDue(x, 1, 0, 1, 0);
            due(11, x.copy(0, 0, 0, 1, 11));
            rowDue(x, 0, 1, 1, 0, 0, 0, 0, 1, 0, 0, 0, 0, 1);
        });
        says("promise 35: (n 0 at the end is not)", () -> {
            AgeSets x = countedRow();
            x.make(1, 3, 5);
            x.make(2, 3, 0);
            due(0, x.copy(0, 100, 1, 5, 0));
            due(0, x.copy(0, 0, 1, 5, 0));
            due(0, x.copy(0, 100, 1, 0, 0));
            due(0, x.copy(2, 0, 2, 0, 0));
            due(0, x.copy(2, 0, 1, 0, 0));
            due(-13, x.copy(0, 101, 1, 5, 0));
            due(-13, x.copy(0, 100, 1, 6, 0));
            due(-13, x.copy(2, 1, 1, 0, 0));
        });
    }

    private static void lawsOnShelves() {
        says("promise 36: 10 and its KIND; of those of an OFFICE 100 times (OFFICE and 1) more", () -> {
            AgeSets x = new AgeSets();
            int law = 0;
            for (int office = 0; office < 6; office += 5) {
                for (int kind : new int[] {0, 1, 3, 4}) {
                    due(law, x.law(10 * kind + office, 0, 0, 1));
                    due(0, x.keep(2, 1, law));
                    due(10 + kind + 100 * (office + 1), x.weight(2));
                    law++;
                }
            }
            due(law, x.law(50, 0, 0, 1));
            due(0, x.keep(2, 1, law));
            due(15, x.weight(2));
        });
        says("promise 36: of those with n (0, 1, 2, 5) n more; of TURN twice all that", () -> {
            AgeSets x = new AgeSets();
            int[] told = {5, 15, 25, 25, 35, 45, 50, 30, 40};
            int[] n = {11, 11, 20, 1, 7, 7, 11, LEAST, GREATEST};
            int[] due = {621, 622, 1264, 1226, 613, 614, 26, 113, 114};
            for (int k = 0; k < told.length; k++) {
                due(k, x.law(told[k], n[k], 99, 20));
                due(0, x.keep(0, 1, k));
                due(due[k], x.weight(0));
            }
        });
        says("promise 37: The FAILURE of the LAW on SHELF d is thrown, and caught: its OFFICE", () -> {
            AgeSets x = new AgeSets();
            int law = 0;
            for (int kind = 0; kind < 5; kind++) {
                for (int office = 0; office < 6; office += 5) {
                    x.law(10 * kind + office, 1, 0, 1);
                    x.keep(7, 1, law);
                    due(office, x.toss(7));
                    due(office, x.toss(7));
                    law++;
                }
            }
        });
    }

    public static void main(String[] args) {
        newObject();
        menCome();
        spans();
        deathsAndRites();
        abouts();
        stepsAndForefathers();
        lawsTold();
        holdings();
        fillings();
        marriages();
        numbersOutsideBest();
        cattleMoonsCounts();
        kept();
        copies();
        lawsOnShelves();
        tellEnd();
    }
}
