/** Of each promise: ordinary inputs, the edges that the document names, and wrong inputs. */
public final class PromiseTest extends Checks {
    private static void p1NewObject() {
        AgeSets x = new AgeSets();
        for (int what = 0; what < 5; what++) {
            due(0, x.count(what));
        }
        due(-2, x.holder(0, 0));
        due(-2, x.holder(5, 99));
        due(0, x.breaches());
        due(5, x.best());
        due(-11, x.weight(0));
        due(-11, x.weight(7));
        due(-1, x.about(0, 1));
        due(-1, x.holds(0, 0));
        due(0, x.room(0));
        due(0, x.fill(0));
    }

    private static void p2Man() {
        AgeSets x = new AgeSets();
        due(0, x.man(0, 0, 0));
        due(1, x.man(1, 0, 799));
        due(2, x.man(1, 799, 799));
        due(-1, x.man(2, 0, 0));
        due(-1, x.man(-1, 0, 0));
        due(-1, x.man(0, -1, 0));
        due(-1, x.man(0, 0, 800));
        due(-1, x.man(0, 800, 800));
        due(-1, x.man(0, 5, 4));
        due(-1, x.man(LEAST, GREATEST, LEAST));
        due(3, x.count(0));
        due(1, x.about(1, 1));
        due(-2, x.about(1, 0));
        due(800, x.about(1, 4));
        for (int i = 3; i < 40; i++) {
            due(i, x.man(0, 0, 0));
        }
        due(-2, x.man(0, 0, 0));
        due(-1, x.man(0, 1, 0));
        due(40, x.count(0));
    }

    private static void p3Son() {
        AgeSets x = new AgeSets();
        due(-1, x.son(0, 10, 10));
        x.man(1, 10, 30);
        due(-3, x.son(0, 0, 10));
        due(1, x.son(0, 0, 11));
        due(1, x.about(1, 1));
        due(0, x.about(1, 0));
        due(-1, x.son(2, 40, 40));
        due(-1, x.son(-1, 40, 40));
        due(-1, x.son(GREATEST, 40, 40));
        due(-1, x.son(0, 41, 40));
        due(-1, x.son(0, 41, 800));
        due(-1, x.son(0, -1, 40));
        x.death(0, 50);
        due(-3, x.son(0, 52, 60));
        due(-3, x.son(0, 700, 799));
        due(2, x.son(0, 51, 60));
        due(2, x.about(0, 7));
        due(0, x.about(1, 7));
        for (int i = 3; i < 40; i++) {
            due(i, x.man(0, 0, 0));
        }
        due(-2, x.son(0, 52, 60));
        due(-2, x.son(0, 0, 10));
        due(-1, x.son(40, 0, 10));
        due(2, x.about(0, 7));
    }

    private static void p4Span() {
        AgeSets x = threeInLine();
        due(3, x.span(0, 8, 8, 11));
        due(2, x.grade(0, 11, 10));
        due(0, x.span(0, 15, 20, 11));
        due(15, x.about(0, 2));
        due(20, x.about(0, 3));
        // Who doesn't live by both spans isn't counted; and nobody's step hangs on a son's own span.
        due(0, x.span(2, 96, 96, 11));
        due(0, x.span(2, 80, 80, 11));
        due(0, x.span(1, 0, 799, 11));
        due(2, x.span(0, 0, 0, 7));
        due(-1, x.span(3, 0, 0, 0));
        due(-1, x.span(-1, 0, 0, 0));
        due(-1, x.span(0, 1, 0, 0));
        due(-1, x.span(0, 0, 800, 0));
        due(-1, x.span(0, -1, 0, 0));
        due(-1, x.span(0, 8, 8, 100));
        due(-1, x.span(0, 8, 8, -1));
        due(0, x.about(0, 3));
        x.death(0, 56);
        due(1, x.span(0, 16, 16, 7));
        // By the old span man 0 is unborn in period 1; his son is of grade 0 by both.
        due(0, x.span(0, 0, 0, 1));
        AgeSets y = withMen(1);
        due(1, y.span(0, 8, 8, 1));
        due(1, y.span(0, 0, 0, 1));
    }

    private static void p5Death() {
        AgeSets x = withMen(1);
        due(800, x.death(0, 0));
        due(0, x.death(0, 800));
        due(800, x.death(0, 799));
        due(-1, x.death(0, 801));
        due(-1, x.death(0, -1));
        due(-1, x.death(1, 5));
        due(-1, x.death(-1, 5));
        due(799, x.about(0, 4));
        // He lives in a period if he isn't dead in its first year.
        x.death(0, 17);
        due(2, x.grade(0, 2, 2));
        x.death(0, 16);
        due(-4, x.grade(0, 2, 2));
    }

    private static void p6Miss() {
        AgeSets x = withMen(2);
        for (int i = 1; i <= 20; i++) {
            due(i, x.miss(0, i % 2 == 0 ? 99 : 3));
        }
        due(-2, x.miss(0, 0));
        due(-1, x.miss(0, 100));
        due(-1, x.miss(0, -1));
        due(-1, x.miss(2, 0));
        due(-1, x.miss(-1, 0));
        due(1, x.miss(1, 5));
        due(2, x.grade(1, 4, 4));
        due(2, x.grade(1, 5, 4));
        due(2, x.grade(0, 12, 2));
        due(2, x.grade(0, 2, 2));
        due(2, x.grade(0, 99, 11));
        due(21, x.count(3));
    }

    private static void p7About() {
        AgeSets x = new AgeSets();
        x.man(1, 3, 12);
        x.son(0, 50, 60);
        x.son(0, 51, 61);
        x.death(1, 99);
        x.miss(1, 4);
        x.marry(1, 70);
        long[] ofSon = {0, 1, 50, 60, 99, 1, 70, 0};
        long[] ofFather = {-2, 1, 3, 12, 800, 0, -2, 2};
        for (int what = 0; what < 8; what++) {
            due(ofSon[what], x.about(1, what));
            due(ofFather[what], x.about(0, what));
        }
        due(-1, x.about(0, 8));
        due(-1, x.about(0, -1));
        due(-1, x.about(3, 0));
        due(-1, x.about(-1, 0));
    }

    private static void p8Step() {
        AgeSets x = threeInLine();
        x.son(2, 30, 700);
        due(99, x.step(0, 99));
        due(94, x.step(1, 99));
        due(-10, x.step(2, 0));
        due(-15, x.step(3, 0));
        x.man(0, 15, 90);
        due(-1, x.step(4, 0));
        x.miss(0, 0);
        x.death(0, 0);
        due(7, x.step(0, 7));
        x.span(1, 200, 300, 0);
        due(2, x.step(1, 7));
        x.span(0, 8, 300, 0);
        due(1, x.step(1, 7));
        dueThrow(IllegalArgumentException.class, () -> x.step(5, 0));
        dueThrow(IllegalArgumentException.class, () -> x.step(-1, 0));
        dueThrow(IllegalArgumentException.class, () -> x.step(0, 100));
        dueThrow(IllegalArgumentException.class, () -> x.step(0, -1));
        dueThrow(IllegalArgumentException.class, () -> x.step(GREATEST, LEAST));
    }

    private static void p9Grade() {
        AgeSets x = new AgeSets();
        x.man(1, 3, 20);
        due(1, x.grade(0, 3, 3));
        due(1, x.grade(0, 3, 2));
        due(1, x.grade(0, 3, 1));
        due(0, x.grade(0, 3, 0));
        due(0, x.grade(0, 3, 4));
        due(2, x.grade(0, 0, 0));
        due(1, x.grade(0, 12, 11));
        due(1, x.grade(0, 12, 10));
        due(2, x.grade(0, 13, 11));
        due(2, x.grade(0, 99, 11));
        due(-1, x.grade(0, 3, 12));
        due(-1, x.grade(0, 3, -1));
        due(-1, x.grade(0, 100, 3));
        due(-1, x.grade(0, -1, 3));
        due(-1, x.grade(1, 3, 3));
        due(-1, x.grade(-1, 3, 3));
        // A father's birth is always the first year told, so his son's grade is one number.
        x.son(0, 40, 79);
        due(2, x.grade(1, 7, 2));
        due(0, x.grade(1, 7, 1));
        due(-4, x.grade(1, 4, 0));
        due(2, x.grade(1, 5, 0));
        x.death(1, 56);
        due(-4, x.grade(1, 7, 2));
        due(-1, x.grade(1, 7, 12));
        due(2, x.grade(1, 6, 1));
        // Missed rites come off the step before the bounds are set.
        x.miss(0, 2);
        x.miss(0, 90);
        due(2, x.grade(0, 99, 11));
        due(1, x.grade(0, 2, 0));
        due(1, x.grade(0, 2, 1));
        due(0, x.grade(0, 2, 2));
        due(2, x.grade(0, 89, 11));
    }

    private static void p10Born() {
        AgeSets x = new AgeSets();
        x.man(0, 0, 300);
        x.son(0, 0, 39);
        x.son(0, 40, 87);
        x.son(0, 88, 799);
        x.son(0, 39, 40);
        x.son(0, 87, 88);
        x.son(0, 39, 88);
        int[][] due = {{0, 0, 2}, {2, 0, 0}, {0, 0, 2}, {0, 2, 0}, {1, 0, 1}, {0, 1, 1}, {1, 1, 1}};
        for (int man = 0; man < due.length; man++) {
            for (int what = 0; what < 3; what++) {
                due(due[man][what], x.born(man, what));
            }
        }
        due(-1, x.born(0, 3));
        due(-1, x.born(0, -1));
        due(-1, x.born(7, 0));
        due(-1, x.born(-1, 0));
        x.span(0, 8, 8, 0);
        due(2, x.born(4, 0));
        // Whatever else is told: a death in the midst of the span doesn't shorten it.
        x.death(5, 0);
        x.span(5, 95, 96, 0);
        due(1, x.born(5, 2));
        // By a son's own sons: his step is his father's less 5.
        x.son(2, 135, 135);
        due(2, x.born(7, 2));
        x.span(7, 87, 87, 0);
        due(2, x.born(7, 0));
    }

    private static void p11Forefather() {
        AgeSets x = threeInLine();
        x.son(0, 40, 40);
        x.son(3, 90, 90);
        x.man(0, 0, 0);
        due(0, x.forefather(2, 4));
        due(0, x.forefather(4, 2));
        due(1, x.forefather(2, 1));
        due(1, x.forefather(1, 2));
        due(2, x.forefather(2, 2));
        due(3, x.forefather(4, 3));
        due(-2, x.forefather(5, 2));
        due(-2, x.forefather(0, 5));
        due(5, x.forefather(5, 5));
        due(-1, x.forefather(6, 0));
        due(-1, x.forefather(0, 6));
        due(-1, x.forefather(-1, 0));
        due(-1, x.forefather(0, LEAST));
    }

    private static void p12Law() {
        AgeSets x = new AgeSets();
        int[] goodKinds = {0, 5, 10, 15, 50};
        int number = 0;
        for (int told : goodKinds) {
            due(-1, x.law(told, -1, 0, 1));
            due(-1, x.law(told, 12, 0, 1));
            due(number++, x.law(told, 0, 0, 1));
            due(number++, x.law(told, 11, 99, 20));
        }
        due(-1, x.law(20, 0, 0, 1));
        due(-1, x.law(20, 21, 0, 1));
        due(number++, x.law(20, 1, 0, 1));
        due(number++, x.law(25, 20, 0, 1));
        due(number++, x.law(30, LEAST, 0, 1));
        due(number++, x.law(45, GREATEST, 0, 1));
        for (int told : new int[] {-1, -10, 6, 9, 16, 26, 36, 46, 49, 51, 55, 60, LEAST, GREATEST}) {
            due(-1, x.law(told, 1, 0, 1));
        }
        due(-1, x.law(0, 1, -1, 1));
        due(-1, x.law(0, 1, 100, 1));
        due(-1, x.law(0, 1, 0, 0));
        due(-1, x.law(0, 1, 0, 21));
        due(-1, x.law(0, 1, 0, LEAST));
        due(14, x.count(1));
        due(14, x.law(40, 0, 0, 1));
        due(15, x.law(40, 0, 0, 1));
        due(-2, x.law(40, 0, 0, 1));
        due(-1, x.law(40, 0, 0, 0));
        due(-1, x.law(20, 0, 0, 1));
        due(16, x.count(1));
    }

    private static void p13Holds() {
        AgeSets x = new AgeSets();
        x.law(0, 5, 3, 2);
        x.law(50, 5, 99, 20);
        due(0, x.holds(0, 2));
        due(1, x.holds(0, 3));
        due(1, x.holds(0, 4));
        due(0, x.holds(0, 5));
        due(0, x.holds(1, 98));
        due(1, x.holds(1, 99));
        due(-1, x.holds(0, 100));
        due(-1, x.holds(0, -1));
        due(-1, x.holds(2, 0));
        due(-1, x.holds(-1, 0));
    }

    private static void p14Could() {
        AgeSets x = new AgeSets();
        x.man(1, 16, 31);
        due(0, x.could(0, 0, 1));
        due(2, x.could(0, 0, 2));
        x.law(0, 3, 0, 10);
        due(0, x.could(0, 0, 4));
        due(1, x.could(0, 0, 5));
        due(2, x.could(0, 0, 6));
        due(2, x.could(0, 0, 10));
        due(2, x.could(0, 1, 4));
        x.law(11, 3, 0, 10);
        due(2, x.could(0, 1, 2));
        due(2, x.could(0, 1, 5));
        due(1, x.could(0, 1, 6));
        due(0, x.could(0, 1, 7));
        // Perhaps, though no year keeps both: grade 3 or above, and 2 or below.
        x.law(10, 2, 5, 1);
        due(1, x.could(0, 0, 5));
        x.law(22, 2, 8, 20);
        x.put(0, 2, 7);
        due(2, x.could(0, 2, 7));
        due(0, x.could(0, 2, 8));
        due(0, x.could(0, 2, 9));
        due(2, x.could(0, 2, 10));
        due(0, x.could(0, 3, 7));
        x.law(33, 0, 4, 2);
        due(0, x.could(0, 3, 4));
        due(2, x.could(0, 3, 5));
        due(2, x.could(0, 3, 6));
        x.son(0, 50, 60);
        x.law(44, 0, 8, 20);
        due(1, x.could(1, 4, 9));
        due(2, x.could(0, 4, 9));
        x.span(1, 20, 30, 0);
        due(0, x.could(1, 4, 9));
        due(2, x.could(1, 4, 6));
        x.law(50, 11, 0, 20);
        due(2, x.could(0, 5, 6));
        // A law that is kept for no year outweighs one that is perhaps kept.
        x.law(10, 0, 5, 1);
        due(0, x.could(0, 0, 5));
        x.death(0, 48);
        due(0, x.could(0, 5, 6));
        due(2, x.could(0, 5, 5));
        due(-1, x.could(2, 0, 0));
        due(-1, x.could(-1, 0, 0));
        due(-1, x.could(0, 6, 0));
        due(-1, x.could(0, -1, 0));
        due(-1, x.could(0, 0, 100));
        due(-1, x.could(0, 0, -1));
    }

    private static void p15Put() {
        AgeSets x = withMen(2);
        x.law(0, 11, 0, 20);
        due(-2, x.put(0, 0, 0));
        due(0, x.put(1, 0, 0));
        due(1, x.put(1, 0, 0));
        due(-3, x.put(1, 5, 0));
        due(-2, x.put(1, 5, 1));
        due(-2, x.put(0, 5, 0));
        due(-3, x.put(0, 0, 0));
        due(1, x.holder(0, 0));
        due(-1, x.put(2, 0, 0));
        due(-1, x.put(-1, 0, 0));
        due(-1, x.put(0, 6, 0));
        due(-1, x.put(0, -1, 0));
        due(-1, x.put(0, 0, 100));
        due(-1, x.put(0, 0, -1));
        x.death(0, 0);
        due(-2, x.put(0, 4, 99));
    }

    private static void p16Empty() {
        AgeSets x = withMen(2);
        due(-3, x.empty(0, 0));
        x.put(1, 0, 0);
        due(-3, x.empty(1, 0));
        due(-3, x.empty(0, 1));
        due(1, x.empty(0, 0));
        due(-3, x.empty(0, 0));
        due(-2, x.holder(0, 0));
        due(-1, x.empty(6, 0));
        due(-1, x.empty(-1, 0));
        due(-1, x.empty(0, 100));
        due(-1, x.empty(0, -1));
    }

    private static void p17Holder() {
        AgeSets x = withMen(2);
        due(-2, x.holder(5, 99));
        x.put(1, 5, 99);
        due(1, x.holder(5, 99));
        due(-2, x.holder(5, 98));
        due(-2, x.holder(4, 99));
        due(-1, x.holder(6, 0));
        due(-1, x.holder(-1, 0));
        due(-1, x.holder(0, 100));
        due(-1, x.holder(0, -1));
    }

    private static void p18Held() {
        AgeSets x = withMen(2);
        x.put(0, 0, 0);
        x.put(0, 1, 4);
        x.put(0, 1, 5);
        x.put(1, 0, 4);
        x.put(0, 2, 98);
        x.put(0, 2, 99);
        due(0, x.held(0, 0));
        due(1, x.held(0, 1));
        due(1, x.held(0, 4));
        due(2, x.held(0, 5));
        due(3, x.held(0, 6));
        due(4, x.held(0, 99));
        due(1, x.held(1, 99));
        due(-1, x.held(2, 0));
        due(-1, x.held(-1, 0));
        due(-1, x.held(0, 100));
        due(-1, x.held(0, -1));
    }

    private static void p19Fill() {
        AgeSets x = withMen(2);
        // Each office gets the least man with whom two can still be filled.
        x.law(0, 5, 0, 20);
        x.law(1, 5, 0, 20);
        due(2, x.fill(10));
        due(0, x.holder(0, 10));
        due(1, x.holder(1, 10));
        due(-2, x.holder(2, 10));
        due(0, x.fill(10));
        // Office 0 is closed to man 1, and man 0 alone is left for office 1: the least is not taken.
        AgeSets y = new AgeSets();
        y.man(0, 0, 0);
        y.man(0, 40, 40);
        y.law(11, 6, 0, 20);
        for (int office = 2; office < 6; office++) {
            y.law(office, 11, 0, 20);
        }
        due(2, y.fill(7));
        due(0, y.holder(0, 7));
        due(1, y.holder(1, 7));
        AgeSets z = new AgeSets();
        z.man(0, 0, 0);
        z.man(0, 40, 40);
        z.law(1, 6, 0, 20);
        for (int office = 2; office < 6; office++) {
            z.law(office, 11, 0, 20);
        }
        due(2, z.fill(7));
        due(1, z.holder(0, 7));
        due(0, z.holder(1, 7));
        // Who only perhaps could gets nothing, nor who holds something, nor a held office another man.
        AgeSets w = new AgeSets();
        w.man(0, 0, 9);
        w.man(0, 0, 0);
        w.man(0, 0, 0);
        w.law(0, 5, 0, 20);
        for (int office = 2; office < 6; office++) {
            w.law(30 + office, 0, 0, 20);
        }
        w.put(2, 3, 5);
        due(2, w.fill(5));
        due(1, w.holder(0, 5));
        due(0, w.holder(1, 5));
        due(-2, w.holder(2, 5));
        due(2, w.holder(3, 5));
        due(-1, w.fill(100));
        due(-1, w.fill(-1));
        AgeSets v = withMen(40);
        due(6, v.fill(99));
        due(5, v.holder(5, 99));
        due(6, v.count(2));
        v.law(0, 11, 0, 20);
        due(5, v.fill(3));
        due(-2, v.holder(0, 3));
        due(0, v.holder(1, 3));
        due(4, v.holder(5, 3));
    }

    private static void p20Room() {
        AgeSets x = withMen(4);
        due(4, x.room(3));
        due(0, x.count(2));
        x.put(0, 5, 3);
        due(3, x.room(3));
        x.law(22, 3, 4, 20);
        x.put(0, 2, 3);
        for (int office = 0; office < 6; office++) {
            if (office != 2) {
                x.law(office, 11, 0, 20);
            }
        }
        due(1, x.room(4));
        due(1, x.fill(4));
        due(0, x.holder(2, 4));
        due(0, x.room(4));
        due(1, x.room(5));
        due(-1, x.room(100));
        due(-1, x.room(-1));
    }

    private static void p21Breaches() {
        AgeSets x = withMen(2);
        due(0, x.breaches());
        x.put(0, 0, 3);
        due(0, x.breaches());
        x.law(0, 4, 0, 20);
        due(1, x.breaches());
        x.put(0, 0, 4);
        due(1, x.breaches());
        x.law(20, 1, 0, 20);
        due(2, x.breaches());
        x.empty(0, 3);
        due(0, x.breaches());
        // Only what can't be at all is a breach: perhaps is none.
        x.span(0, 0, 20, 4);
        due(0, x.breaches());
        x.death(0, 32);
        due(1, x.breaches());
        x.death(0, 33);
        due(0, x.breaches());
    }

    private static void p22Breach() {
        AgeSets x = withMen(2);
        due(-3, x.breach(0));
        x.death(0, 0);
        x.death(1, 0);
        x.put(0, 5, 99);
        x.put(0, 4, 7);
        x.put(1, 2, 7);
        x.put(1, 0, 0);
        due(0, x.breach(0));
        due(72, x.breach(1));
        due(74, x.breach(2));
        due(995, x.breach(3));
        due(-3, x.breach(4));
        due(4, x.breaches());
        due(-3, x.breach(GREATEST));
        due(-1, x.breach(-1));
        due(-1, x.breach(LEAST));
    }

    private static void p23May() {
        AgeSets x = new AgeSets();
        x.man(0, 10, 16);
        due(0, x.may(0, 7));
        due(2, x.may(0, 8));
        x.law(50, 4, 3, 5);
        due(0, x.may(0, 39));
        due(1, x.may(0, 40));
        due(1, x.may(0, 47));
        due(2, x.may(0, 48));
        due(2, x.may(0, 23));
        due(2, x.may(0, 64));
        x.law(0, 11, 0, 20);
        x.law(40, 0, 0, 20);
        due(2, x.may(0, 48));
        x.put(0, 0, 6);
        due(2, x.may(0, 48));
        x.death(0, 57);
        due(2, x.may(0, 63));
        due(0, x.may(0, 64));
        x.marry(0, 20);
        due(0, x.may(0, 48));
        due(0, x.may(0, 10));
        due(-1, x.may(1, 0));
        due(-1, x.may(-1, 0));
        due(-1, x.may(0, 800));
        due(-1, x.may(0, -1));
    }

    private static void p24Marry() {
        AgeSets x = new AgeSets();
        x.man(0, 10, 10);
        x.man(0, 10, 10);
        x.man(0, 10, 20);
        x.law(50, 4, 0, 20);
        due(-3, x.marry(0, 7));
        due(0, x.marry(0, 8));
        due(8, x.about(0, 6));
        due(-3, x.marry(0, 80));
        due(-3, x.marry(0, 8));
        x.death(1, 41);
        due(-3, x.marry(1, 48));
        due(-2, x.about(1, 6));
        due(2, x.marry(1, 47));
        due(1, x.marry(2, 40));
        due(3, x.count(4));
        due(-1, x.marry(3, 0));
        due(-1, x.marry(-1, 0));
        due(-1, x.marry(0, 800));
        due(-1, x.marry(0, -1));
    }

    private static void p25Numbers() {
        AgeSets x = threeInLine();
        x.man(0, 0, 700);
        x.miss(3, 10);
        due(1, x.numbers(10, 10, 5));
        due(1, x.numbers(10, 9, 5));
        due(1, x.numbers(10, 5, 5));
        due(1, x.numbers(10, 0, 5));
        due(0, x.numbers(9, 0, 5));
        due(2, x.numbers(9, 9, 5));
        due(1, x.numbers(10, 1, 9));
        due(1, x.numbers(10, 0, 9));
        due(2, x.numbers(10, 9, 1));
        due(1, x.numbers(10, 8, 1));
        x.death(1, 80);
        due(1, x.numbers(10, 9, 1));
        due(3, x.numbers(99, 11, 9));
        due(-1, x.numbers(100, 0, 5));
        due(-1, x.numbers(-1, 0, 5));
        due(-1, x.numbers(0, 12, 5));
        due(-1, x.numbers(0, -1, 5));
        due(-1, x.numbers(0, 0, 0));
        due(-1, x.numbers(0, 0, 10));
    }

    private static void p26Outside() {
        AgeSets x = new AgeSets();
        x.man(0, 0, 0);
        x.son(0, 39, 200);
        x.son(0, 40, 40);
        x.son(0, 87, 87);
        x.son(0, 88, 88);
        due(1, x.outside(5, 0));
        due(1, x.outside(5, 1));
        due(0, x.outside(4, 0));
        due(2, x.outside(4, 1));
        due(2, x.outside(6, 0));
        due(0, x.outside(6, 1));
        due(4, x.outside(1, 1));
        due(2, x.outside(9, 0));
        // By a rule of d the father's own step is another one too.
        x.son(2, 80, 80);
        due(1, x.outside(5, 0));
        due(0, x.outside(4, 0));
        due(3, x.outside(6, 0));
        x.death(1, 0);
        due(3, x.outside(6, 0));
        due(-1, x.outside(0, 0));
        due(-1, x.outside(10, 0));
        due(-1, x.outside(5, 2));
        due(-1, x.outside(5, -1));
    }

    private static void p27Best() {
        due(5, withMen(3).best());
        AgeSets x = new AgeSets();
        x.man(0, 0, 0);
        x.son(0, 8, 8);
        due(1, x.best());
        x.son(0, 88, 88);
        // 1 keeps the first, 6 .. 9 the second: 6 is the nearest to 5.
        due(6, x.best());
        x.son(0, 16, 16);
        due(1, x.best());
        AgeSets y = new AgeSets();
        y.man(0, 0, 0);
        y.son(0, 32, 32);
        y.son(0, 96, 96);
        // 4 keeps the one, 6 the other; both are as near to 5.
        due(4, y.best());
        y.son(0, 96, 96);
        due(6, y.best());
        AgeSets z = new AgeSets();
        z.man(0, 0, 0);
        z.son(0, 144, 144);
        due(9, z.best());
        z.son(0, 16, 16);
        z.son(0, 16, 16);
        due(2, z.best());
    }

    private static void p28Owes() {
        AgeSets x = new AgeSets();
        x.man(0, 8, 80);
        due(0, x.owes(0, 0));
        due(0, x.owes(0, 1));
        due(1, x.owes(0, 2));
        due(10, x.owes(0, 5));
        x.miss(0, 4);
        due(8, x.owes(0, 5));
        x.pay(0, 100);
        due(-92, x.owes(0, 5));
        due(-100, x.owes(0, 0));
        x.death(0, 33);
        due(-95, x.owes(0, 4));
        due(-95, x.owes(0, 5));
        due(-95, x.owes(0, 99));
        x.son(0, 34, 50);
        due(0, x.owes(1, 5));
        due(1, x.owes(1, 7));
        due(1 + 2 + 3, x.owes(1, 9));
        AgeSets y = withMen(1);
        due(66 + 88 * 11, y.owes(0, 99));
        dueThrow(IllegalArgumentException.class, () -> y.owes(1, 0));
        dueThrow(IllegalArgumentException.class, () -> y.owes(-1, 0));
        dueThrow(IllegalArgumentException.class, () -> y.owes(0, 100));
        dueThrow(IllegalArgumentException.class, () -> y.owes(0, -1));
    }

    private static void p29Pay() {
        AgeSets x = withMen(2);
        due(1, x.pay(0, 1));
        due(-1, x.pay(0, 0));
        due(-1, x.pay(0, 1001));
        due(-1, x.pay(0, LEAST));
        due(-1, x.pay(2, 1));
        due(-1, x.pay(-1, 1));
        for (int i = 1; i < 100; i++) {
            due(1 + 1000 * i, x.pay(0, 1000));
        }
        due(-2, x.pay(0, 1000));
        due(-1, x.pay(0, 1001));
        due(100000, x.pay(0, 999));
        due(-2, x.pay(0, 1));
        due(7, x.pay(1, 7));
    }

    private static void p30Moons() {
        AgeSets x = new AgeSets();
        int all = 0;
        for (int year = 0; year < 800; year++) {
            int isLong = (7 * year + 1) % 19 < 7 ? 1 : 0;
            all += isLong;
            if (year < 190) {
                due(isLong, x.moons(year, year));
            }
        }
        due(all, x.moons(0, 799));
        due(7, x.moons(19, 37));
        due(1, x.moons(0, 2));
        due(2, x.moons(0, 3));
        due(-1, x.moons(5, 4));
        due(-1, x.moons(-1, 4));
        due(-1, x.moons(0, 800));
        due(-1, x.moons(GREATEST, LEAST));
    }

    private static void p31Count() {
        AgeSets x = threeInLine();
        x.law(50, 0, 0, 1);
        x.law(50, 0, 0, 1);
        x.put(0, 0, 0);
        x.put(1, 5, 99);
        x.put(0, 5, 98);
        x.put(2, 5, 98);
        x.put(2, 3, 9);
        for (int i = 0; i < 5; i++) {
            x.miss(i % 3, i);
        }
        x.marry(1, 400);
        x.marry(0, 400);
        x.marry(1, 400);
        due(3, x.count(0));
        due(2, x.count(1));
        due(4, x.count(2));
        due(5, x.count(3));
        due(2, x.count(4));
        x.empty(3, 9);
        due(3, x.count(2));
        due(-1, x.count(5));
        due(-1, x.count(-1));
    }

    private static void p32Keep() {
        AgeSets x = threeInLine();
        x.law(3, 7, 0, 1);
        due(-1, x.keep(0, 1, 1));
        due(-1, x.keep(0, 1, -1));
        due(0, x.keep(0, 1, 0));
        due(417, x.weight(0));
        due(-1, x.keep(0, 2, 0));
        due(-1, x.keep(0, 5, 0));
        due(-1, x.keep(0, -1, 0));
        due(-1, x.keep(0, 3, 6));
        due(-1, x.keep(0, 3, -1));
        due(-1, x.keep(0, 4, 100));
        due(-1, x.keep(0, 4, -1));
        due(-1, x.keep(8, 0, 0));
        due(-1, x.keep(-1, 1, 0));
        due(417, x.weight(0));
        due(0, x.keep(0, 0, LEAST));
        due(-11, x.weight(0));
        x.put(2, 5, 99);
        x.put(1, 5, 0);
        due(0, x.keep(0, 3, 5));
        due(1, x.element(0, 0));
        due(-1, x.element(0, 1));
        due(2, x.element(0, 99));
        // The row is what was so when it was kept, and writing on it changes no holding.
        x.empty(5, 0);
        due(1, x.element(0, 0));
        due(2, x.copy(0, 0, 0, 98, 2));
        due(2, x.holder(5, 99));
        due(0, x.keep(7, 4, 10));
        long[] numbers = {1, 0, 0, 0, 0, 1, 0, 0, 0, 0, 1, 0};
        for (int grade = 0; grade < 12; grade++) {
            due(numbers[grade], x.element(7, grade));
        }
        dueThrow(IllegalStateException.class, () -> x.element(0, 100));
        dueThrow(IllegalStateException.class, () -> x.element(7, 12));
        x.span(1, 0, 0, 0);
        due(1, x.element(7, 5));
        x.keep(7, 4, 99);
        due(3, x.element(7, 11));
    }

    private static void p33Make() {
        AgeSets x = new AgeSets();
        due(0, x.make(0, 3, 60));
        due(0, x.make(7, 4, 1));
        due(0, x.element(0, 59));
        due(0, x.element(7, 0));
        due(0, x.make(1, 4, 0));
        due(-12, x.weight(1));
        due(-14, x.make(0, 3, -1));
        due(-14, x.make(0, 4, LEAST));
        due(-1, x.make(0, 3, 61));
        due(-1, x.make(0, 3, GREATEST));
        due(-1, x.make(0, 0, 1));
        due(-1, x.make(0, 1, 1));
        due(-1, x.make(0, 2, -1));
        due(-1, x.make(0, 5, 1));
        due(-1, x.make(8, 3, -1));
        due(-1, x.make(-1, 3, 1));
        due(0, x.element(0, 59));
    }

    private static void p34Element() {
        AgeSets x = threeInLine();
        x.put(1, 0, 1);
        x.law(0, 0, 0, 1);
        x.keep(0, 3, 0);
        x.keep(1, 1, 0);
        x.make(2, 4, 0);
        due(-1, x.element(0, 0));
        due(1, x.element(0, 1));
        dueThrow(IllegalStateException.class, () -> x.element(0, 100));
        dueThrow(IllegalStateException.class, () -> x.element(0, -1));
        dueThrow(IllegalStateException.class, () -> x.element(0, GREATEST));
        dueThrow(IllegalStateException.class, () -> x.element(1, 0));
        dueThrow(IllegalStateException.class, () -> x.element(2, 0));
        dueThrow(IllegalStateException.class, () -> x.element(3, 0));
        dueThrow(IllegalArgumentException.class, () -> x.element(8, 0));
        dueThrow(IllegalArgumentException.class, () -> x.element(-1, -1));
    }

    private static void p35Copy() {
        AgeSets x = withMen(9);
        for (int q = 0; q < 9; q++) {
            x.put(q, 0, q);
        }
        x.keep(0, 3, 0);
        due(8, x.copy(0, 0, 0, 1, 8));
        for (int q = 0; q < 9; q++) {
            due(Math.max(0, q - 1), x.element(0, q));
        }
        due(8, x.copy(0, 1, 0, 0, 8));
        due(7, x.element(0, 7));
        due(7, x.element(0, 8));
        x.make(1, 3, 5);
        due(5, x.copy(0, 3, 1, 0, 5));
        due(3, x.element(1, 0));
        due(7, x.element(1, 4));
        due(0, x.copy(0, 100, 1, 5, 0));
        due(-13, x.copy(0, 101, 1, 5, 0));
        due(-13, x.copy(0, 100, 1, 6, 0));
        due(-13, x.copy(0, 0, 1, 0, 6));
        due(-13, x.copy(0, 96, 1, 0, 5));
        due(-13, x.copy(0, -1, 1, 0, 1));
        due(-13, x.copy(0, 0, 1, -1, 1));
        due(-13, x.copy(0, 0, 1, 0, -1));
        due(-13, x.copy(0, GREATEST, 1, 0, 1));
        due(-13, x.copy(0, 1, 1, 0, GREATEST));
        due(-13, x.copy(0, 1, 1, GREATEST, 1));
        due(-13, x.copy(0, LEAST, 1, LEAST, LEAST));
        due(3, x.element(1, 0));
        x.make(2, 4, 5);
        due(-12, x.copy(0, 0, 2, 0, 1));
        due(-12, x.copy(2, -1, 0, 0, 1));
        x.law(0, 0, 0, 1);
        x.keep(3, 1, 0);
        due(-12, x.copy(3, 0, 0, 0, 1));
        due(-12, x.copy(0, 0, 3, 0, 1));
        due(-12, x.copy(3, 0, 3, 0, 1));
        due(-11, x.copy(4, 0, 3, 0, 1));
        due(-11, x.copy(3, 0, 4, 0, -1));
        due(-1, x.copy(8, 0, 4, 0, 1));
        due(-1, x.copy(4, 0, -1, 0, 1));
        x.keep(4, 4, 8);
        due(3, x.copy(4, 7, 2, 0, 3));
        due(0, x.element(2, 0));
        due(9, x.element(2, 1));
        due(0, x.element(2, 2));
    }

    private static void p36Weight() {
        AgeSets x = new AgeSets();
        int[] told = {5, 10, 23, 34, 41, 50};
        int[] n = {11, 2, 20, 9, 9, 6};
        int[] due = {621, 113, 864, 513, 214, 21};
        for (int k = 0; k < told.length; k++) {
            due(k, x.law(told[k], n[k], 0, 1));
            due(0, x.keep(1, 1, k));
            due(due[k], x.weight(1));
        }
        due(-11, x.weight(0));
        x.make(0, 3, 2);
        due(-12, x.weight(0));
        due(-1, x.weight(8));
        due(-1, x.weight(-1));
    }

    private static void p37Toss() {
        AgeSets x = new AgeSets();
        int[] told = {5, 10, 23, 34, 41, 50};
        int[] due = {5, 0, 3, 4, 1, -15};
        for (int k = 0; k < told.length; k++) {
            x.law(told[k], 1, 0, 1);
            x.keep(7, 1, k);
            due(due[k], x.toss(7));
            due(due[k], x.toss(7));
        }
        due(-11, x.toss(0));
        x.make(0, 4, 2);
        due(-12, x.toss(0));
        due(-1, x.toss(8));
        due(-1, x.toss(-1));
    }

    private static void run(int number) {
        tested = "promise " + number;
        switch (number) {
            case 1: p1NewObject(); break;
            case 2: p2Man(); break;
            case 3: p3Son(); break;
            case 4: p4Span(); break;
            case 5: p5Death(); break;
            case 6: p6Miss(); break;
            case 7: p7About(); break;
            case 8: p8Step(); break;
            case 9: p9Grade(); break;
            case 10: p10Born(); break;
            case 11: p11Forefather(); break;
            case 12: p12Law(); break;
            case 13: p13Holds(); break;
            case 14: p14Could(); break;
            case 15: p15Put(); break;
            case 16: p16Empty(); break;
            case 17: p17Holder(); break;
            case 18: p18Held(); break;
            case 19: p19Fill(); break;
            case 20: p20Room(); break;
            case 21: p21Breaches(); break;
            case 22: p22Breach(); break;
            case 23: p23May(); break;
            case 24: p24Marry(); break;
            case 25: p25Numbers(); break;
            case 26: p26Outside(); break;
            case 27: p27Best(); break;
            case 28: p28Owes(); break;
            case 29: p29Pay(); break;
            case 30: p30Moons(); break;
            case 31: p31Count(); break;
            case 32: p32Keep(); break;
            case 33: p33Make(); break;
            case 34: p34Element(); break;
            case 35: p35Copy(); break;
            case 36: p36Weight(); break;
            case 37: p37Toss(); break;
            default: throw new IllegalStateException("no test of promise " + number);
        }
    }

    public static void main(String[] args) {
        for (int number = 1; number <= 37; number++) {
            run(number);
        }
        tellEnd();
    }
}
