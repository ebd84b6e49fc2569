import java.util.ArrayList;
import java.util.Arrays;
import java.util.List;

/**
 * Of each call all its refusals, singly and several at once, and that none of them changes
 * anything: two peoples are made alike, one of them is asked the refused call, and then both are
 * asked all that can be seen of them.
 */
public final class RefusalTest extends Checks {
    private static final long THREW_ARGUMENT = Long.MIN_VALUE + 1;
    private static final long THREW_STATE = Long.MIN_VALUE + 2;
    private static final int VIEWS = 7;

    private interface Ask {
        long of(AgeSets x);
    }

    private static final long[][] SEEN_OF_BUSY = new long[VIEWS][];
    private static final long[][] SEEN_OF_FULL = new long[VIEWS][];

    private static long answer(AgeSets x, Ask ask) {
        try {
            return ask.of(x);
        } catch (IllegalArgumentException e) {
            return THREW_ARGUMENT;
        } catch (IllegalStateException e) {
            return THREW_STATE;
        }
    }

    // ---- two peoples

    /** Five men, five laws; shelf 5 holds nothing. */
    private static AgeSets busy() {
        AgeSets x = new AgeSets();
        x.man(0, 0, 10);
        x.man(1, 16, 40);
        x.son(0, 40, 60);
        x.son(2, 90, 100);
        x.man(1, 8, 8);
        x.death(1, 300);
        x.death(3, 150);
        x.miss(2, 9);
        x.miss(0, 3);
        x.law(3, 4, 2, 10);
        x.law(24, 3, 0, 20);
        x.law(50, 3, 0, 20);
        x.law(41, 0, 5, 5);
        x.law(30, 0, 10, 20);
        x.put(0, 3, 6);
        x.put(2, 0, 6);
        x.put(1, 4, 7);
        x.put(4, 4, 8);
        x.put(1, 3, 99);
        x.marry(0, 50);
        x.marry(4, 20);
        x.pay(0, 40);
        x.pay(2, 7);
        x.keep(0, 1, 0);
        x.keep(1, 3, 3);
        x.keep(2, 4, 10);
        x.make(3, 3, 5);
        x.make(4, 4, 5);
        x.keep(6, 1, 2);
        x.make(7, 3, 0);
        return x;
    }

    /** No more men, no more laws; man 0 can miss no more rites and pay no more cattle. */
    private static AgeSets full() {
        AgeSets x = busy();
        for (int man = 5; man < 40; man++) {
            x.man(0, 3 * man, 4 * man);
        }
        for (int law = 5; law < 16; law++) {
            x.law(45, 0, law, 3);
        }
        for (int missed = 1; missed < 20; missed++) {
            x.miss(0, 4 * missed);
        }
        for (int paid = 40; paid < 99040; paid += 1000) {
            x.pay(0, 1000);
        }
        x.pay(0, 960);
        return x;
    }

    // ---- all that can be seen, in views of fewer than 300 calls each

    private static long[] seen(AgeSets x, int view) {
        List<Long> seen = new ArrayList<>();
        int[] men = {0, 1, 2, 3, 4, x.count(0) - 1};
        switch (view) {
            case 0: seeMen(x, men, seen); break;
            case 1: seePeriods(x, men, seen); break;
            case 2: case 3: case 4: seeHolders(x, 2 * (view - 2), seen); break;
            case 5: seeLaws(x, seen); break;
            default: seeShelves(x, seen); break;
        }
        long[] row = new long[seen.size()];
        for (int i = 0; i < row.length; i++) {
            row[i] = seen.get(i);
        }
        return row;
    }

    private static void seeMen(AgeSets x, int[] men, List<Long> seen) {
        for (int man : men) {
            for (int what = 0; what < 8; what++) {
                seen.add((long) x.about(man, what));
            }
            for (int what = 0; what < 3; what++) {
                seen.add((long) x.born(man, what));
            }
            for (int other : men) {
                seen.add((long) x.forefather(man, other));
            }
        }
        for (int what = 0; what < 5; what++) {
            seen.add((long) x.count(what));
        }
        seen.add((long) x.best());
        seen.add((long) x.breaches());
        for (int i = 0; i < 8; i++) {
            seen.add((long) x.breach(i));
        }
    }

    private static void seePeriods(AgeSets x, int[] men, List<Long> seen) {
        for (int q : new int[] {0, 3, 6, 9, 12, 20, 99}) {
            for (int man : men) {
                seen.add(x.step(man, q));
                seen.add(x.owes(man, q));
                seen.add((long) x.held(man, q));
                seen.add((long) x.grade(man, q, Math.min(11, q)));
                seen.add((long) x.may(man, 8 * q));
            }
            seen.add((long) x.numbers(q, 0, 5));
        }
    }

    private static void seeHolders(AgeSets x, int office, List<Long> seen) {
        for (int q = 0; q < 100; q++) {
            seen.add((long) x.holder(office, q));
            seen.add((long) x.holder(office + 1, q));
        }
    }

    private static void seeLaws(AgeSets x, List<Long> seen) {
        int laws = x.count(1);
        for (int law = 0; law < laws; law++) {
            for (int q : new int[] {0, 2, 5, 11, 12, 19, 20, 29, 30}) {
                seen.add((long) x.holds(law, q));
            }
        }
        for (int man = 0; man < 5; man++) {
            for (int office = 0; office < 6; office++) {
                seen.add((long) x.could(man, office, 7));
                seen.add((long) x.could(man, office, 11));
            }
        }
        for (int q = 4; q < 14; q++) {
            seen.add((long) x.room(q));
        }
    }

    private static void seeShelves(AgeSets x, List<Long> seen) {
        for (int d = 0; d < 8; d++) {
            final int shelf = d;
            seen.add((long) x.weight(d));
            seen.add((long) x.toss(d));
            for (int i = 0; i < (d == 1 ? 101 : 13); i++) {
                final int place = i;
                seen.add(answer(x, y -> y.element(shelf, place)));
            }
        }
    }

    // ---- what is refused

    private static void refused(boolean isFull, long want, Ask ask) {
        long[][] before = isFull ? SEEN_OF_FULL : SEEN_OF_BUSY;
        for (int view = 0; view < VIEWS; view++) {
            AgeSets x = isFull ? full() : busy();
            long got = answer(x, ask);
            if (view == 0) {
                due(want, got);
            }
            due(1, Arrays.equals(before[view], seen(x, view)) ? 1 : 0);
        }
    }

    private static void refused(long want, Ask ask) {
        refused(false, want, ask);
    }

    private static void refusedIfFull(long want, Ask ask) {
        refused(true, want, ask);
    }

    private static void ofMen() {
        says("man: -1 (first above last)", () -> {
            refused(-1, x -> x.man(0, 5, 4));
            refused(-1, x -> x.man(0, 799, 0));
            refused(-1, x -> x.man(2, 4, 5));
            refused(-1, x -> x.man(-1, 4, 5));
            refused(-1, x -> x.man(0, -1, 5));
            refused(-1, x -> x.man(0, 0, 800));
        });
        says("man: -2: there are 40", () -> refusedIfFull(-2, x -> x.man(0, 4, 5)));
        says("man: -1 ahead of -2", () -> {
            refusedIfFull(-1, x -> x.man(0, 5, 4));
            refusedIfFull(-1, x -> x.man(2, 4, 5));
        });
        says("son: -1", () -> {
            refused(-1, x -> x.son(5, 40, 40));
            refused(-1, x -> x.son(-1, 40, 40));
            refused(-1, x -> x.son(0, 41, 40));
            refused(-1, x -> x.son(0, -1, 40));
            refused(-1, x -> x.son(0, 40, 800));
        });
        says("son: -2", () -> {
            refusedIfFull(-2, x -> x.son(0, 40, 40));
            refusedIfFull(-2, x -> x.son(39, 799, 799));
        });
        says("son: -3: last is not above the first YEAR of his FATHER's BIRTH", () -> {
            refused(-3, x -> x.son(0, 0, 0));
            refused(-3, x -> x.son(2, 0, 40));
            refused(-3, x -> x.son(2, 0, 39));
        });
        says("son: -3: or his FATHER was dead two YEARS and more ahead of first", () -> {
            refused(-3, x -> x.son(1, 302, 302));
            refused(-3, x -> x.son(1, 302, 799));
            refused(-3, x -> x.son(3, 799, 799));
        });
        says("son: -1 ahead of -2 ahead of -3", () -> {
            refused(-1, x -> x.son(2, 40, 39));
            refused(-1, x -> x.son(1, 310, 302));
            refusedIfFull(-1, x -> x.son(40, 0, 0));
            refusedIfFull(-1, x -> x.son(0, 1, 0));
            refusedIfFull(-2, x -> x.son(0, 0, 0));
            refusedIfFull(-2, x -> x.son(1, 302, 302));
        });
        says("span: -1 (also PERIOD)", () -> {
            refused(-1, x -> x.span(5, 4, 5, 0));
            refused(-1, x -> x.span(-1, 4, 5, 0));
            refused(-1, x -> x.span(0, 5, 4, 0));
            refused(-1, x -> x.span(0, -1, 4, 0));
            refused(-1, x -> x.span(0, 4, 800, 0));
            refused(-1, x -> x.span(0, 4, 5, -1));
            refused(-1, x -> x.span(0, 4, 5, 100));
        });
        says("death: -1 (0 .. 800)", () -> {
            refused(-1, x -> x.death(0, -1));
            refused(-1, x -> x.death(0, 801));
            refused(-1, x -> x.death(0, GREATEST));
            refused(-1, x -> x.death(5, 0));
            refused(-1, x -> x.death(-1, 0));
        });
    }

    private static void ofOneMan() {
        says("miss: -1", () -> {
            refused(-1, x -> x.miss(5, 0));
            refused(-1, x -> x.miss(-1, 0));
            refused(-1, x -> x.miss(0, -1));
            refused(-1, x -> x.miss(0, 100));
        });
        says("miss: -2: he missed 20", () -> {
            refusedIfFull(-2, x -> x.miss(0, 0));
            refusedIfFull(-2, x -> x.miss(0, 99));
        });
        says("miss: -1 ahead of -2", () -> refusedIfFull(-1, x -> x.miss(0, 100)));
        says("about: FATHER (-2), has nobody (-2); -1", () -> {
            refused(-2, x -> x.about(0, 0));
            refused(-2, x -> x.about(1, 6));
            refused(-1, x -> x.about(0, 8));
            refused(-1, x -> x.about(0, -1));
            refused(-1, x -> x.about(5, 0));
            refused(-1, x -> x.about(-1, 6));
        });
        says("step: IllegalArgumentException: no such man, PERIOD", () -> {
            refused(THREW_ARGUMENT, x -> x.step(5, 0));
            refused(THREW_ARGUMENT, x -> x.step(-1, 0));
            refused(THREW_ARGUMENT, x -> x.step(0, -1));
            refused(THREW_ARGUMENT, x -> x.step(0, 100));
        });
        says("grade: -1; -4: he doesn't LIVE in it", () -> {
            refused(-1, x -> x.grade(5, 0, 0));
            refused(-1, x -> x.grade(-1, 0, 0));
            refused(-1, x -> x.grade(0, -1, 0));
            refused(-1, x -> x.grade(0, 100, 0));
            refused(-1, x -> x.grade(0, 0, -1));
            refused(-1, x -> x.grade(0, 0, 12));
            refused(-4, x -> x.grade(1, 1, 0));
            refused(-4, x -> x.grade(1, 38, 11));
        });
        says("grade: -1 ahead of -4", () -> {
            refused(-1, x -> x.grade(1, 1, 12));
            refused(-1, x -> x.grade(1, 1, -1));
        });
        says("born: -1", () -> {
            refused(-1, x -> x.born(5, 0));
            refused(-1, x -> x.born(-1, 0));
            refused(-1, x -> x.born(2, 3));
            refused(-1, x -> x.born(2, -1));
        });
        says("forefather: -2: there is none. -1", () -> {
            refused(-2, x -> x.forefather(1, 3));
            refused(-1, x -> x.forefather(5, 1));
            refused(-1, x -> x.forefather(1, 5));
            refused(-1, x -> x.forefather(-1, -1));
        });
    }

    private static void ofLaws() {
        says("law: KIND and OFFICE told as 10 * KIND + OFFICE (of MARRY 50)", () -> {
            for (int told : new int[] {-1, -50, 6, 9, 16, 19, 26, 39, 46, 49, 51, 55, 56, 60, 100, LEAST, GREATEST}) {
                refused(-1, x -> x.law(told, 1, 0, 1));
            }
        });
        says("law: n (0 .. 11 of GRADE, MOST, MARRY; 1 .. 20 of TURN)", () -> {
            for (int told : new int[] {0, 5, 10, 15, 50}) {
                refused(-1, x -> x.law(told, -1, 0, 1));
                refused(-1, x -> x.law(told, 12, 0, 1));
                refused(-1, x -> x.law(told, LEAST, 0, 1));
            }
            for (int told : new int[] {20, 25}) {
                refused(-1, x -> x.law(told, 0, 0, 1));
                refused(-1, x -> x.law(told, 21, 0, 1));
                refused(-1, x -> x.law(told, GREATEST, 0, 1));
            }
        });
        says("law: the PERIOD in which it is spoken, for how long", () -> {
            refused(-1, x -> x.law(0, 1, -1, 1));
            refused(-1, x -> x.law(0, 1, 100, 1));
            refused(-1, x -> x.law(0, 1, 0, 0));
            refused(-1, x -> x.law(0, 1, 0, 21));
            refused(-1, x -> x.law(0, 1, 99, GREATEST));
        });
        says("law: -2: there are 16", () -> {
            refusedIfFull(-2, x -> x.law(0, 1, 0, 1));
            refusedIfFull(-2, x -> x.law(50, 1, 0, 1));
        });
        says("law: -1 ahead of -2", () -> {
            refusedIfFull(-1, x -> x.law(6, 1, 0, 1));
            refusedIfFull(-1, x -> x.law(0, 12, 0, 1));
            refusedIfFull(-1, x -> x.law(0, 1, 100, 1));
            refusedIfFull(-1, x -> x.law(0, 1, 0, 0));
        });
        says("holds: -1", () -> {
            refused(-1, x -> x.holds(5, 0));
            refused(-1, x -> x.holds(-1, 0));
            refused(-1, x -> x.holds(0, -1));
            refused(-1, x -> x.holds(0, 100));
        });
    }

    private static void ofOffices() {
        says("could: -1", () -> {
            refused(-1, x -> x.could(5, 0, 0));
            refused(-1, x -> x.could(-1, 0, 0));
            refused(-1, x -> x.could(0, 6, 0));
            refused(-1, x -> x.could(0, -1, 0));
            refused(-1, x -> x.could(0, 0, 100));
            refused(-1, x -> x.could(0, 0, -1));
        });
        says("put: -1", () -> {
            refused(-1, x -> x.put(5, 0, 0));
            refused(-1, x -> x.put(-1, 3, 6));
            refused(-1, x -> x.put(0, 6, 0));
            refused(-1, x -> x.put(0, -1, 0));
            refused(-1, x -> x.put(0, 0, 100));
            refused(-1, x -> x.put(0, 0, -1));
        });
        says("put: -3: he HOLDS another one in it", () -> {
            refused(-3, x -> x.put(0, 4, 6));
            refused(-3, x -> x.put(0, 0, 6));
            refused(-3, x -> x.put(2, 3, 6));
            refused(-3, x -> x.put(1, 5, 99));
        });
        says("put: -1 ahead of -3", () -> refused(-1, x -> x.put(0, 6, 6)));
        says("empty: -1; -3: nobody did", () -> {
            refused(-1, x -> x.empty(6, 0));
            refused(-1, x -> x.empty(-1, 0));
            refused(-1, x -> x.empty(0, 100));
            refused(-1, x -> x.empty(0, -1));
            refused(-3, x -> x.empty(0, 0));
            refused(-3, x -> x.empty(3, 5));
            refused(-3, x -> x.empty(3, 7));
            refused(-3, x -> x.empty(2, 6));
        });
        says("holder: -2: nobody. -1", () -> {
            refused(-2, x -> x.holder(0, 0));
            refused(-1, x -> x.holder(6, 0));
            refused(-1, x -> x.holder(-1, 0));
            refused(-1, x -> x.holder(0, 100));
            refused(-1, x -> x.holder(0, -1));
        });
        says("held: -1", () -> {
            refused(-1, x -> x.held(5, 0));
            refused(-1, x -> x.held(-1, 0));
            refused(-1, x -> x.held(0, 100));
            refused(-1, x -> x.held(0, -1));
        });
        says("fill, room: -1", () -> {
            for (int q : new int[] {-1, 100, LEAST, GREATEST}) {
                refused(-1, x -> x.fill(q));
                refused(-1, x -> x.room(q));
            }
        });
        says("breach: -1 (i below 0); -3: there are not so many", () -> {
            refused(-1, x -> x.breach(-1));
            refused(-1, x -> x.breach(LEAST));
            int breaches = busy().breaches();
            refused(-3, x -> x.breach(breaches));
            refused(-3, x -> x.breach(GREATEST));
        });
    }

    private static void ofMarriage() {
        says("may: -1", () -> {
            refused(-1, x -> x.may(5, 0));
            refused(-1, x -> x.may(-1, 0));
            refused(-1, x -> x.may(0, 800));
            refused(-1, x -> x.may(0, -1));
        });
        says("marry: -1", () -> {
            refused(-1, x -> x.marry(5, 0));
            refused(-1, x -> x.marry(-1, 0));
            refused(-1, x -> x.marry(1, 800));
            refused(-1, x -> x.marry(1, -1));
        });
        says("marry: -3: he has somebody (by whatever YEAR)", () -> {
            refused(-3, x -> x.marry(0, 49));
            refused(-3, x -> x.marry(0, 50));
            refused(-3, x -> x.marry(0, 799));
        });
        says("marry: -3: or doesn't LIVE in that PERIOD", () -> {
            refused(-3, x -> x.marry(1, 15));
            refused(-3, x -> x.marry(1, 304));
            refused(-3, x -> x.marry(3, 152));
            refused(-3, x -> x.marry(3, 87));
        });
        says("marry: -1 ahead of -3", () -> refused(-1, x -> x.marry(0, 800)));
    }

    private static void ofNumbers() {
        says("numbers: -1", () -> {
            refused(-1, x -> x.numbers(-1, 0, 5));
            refused(-1, x -> x.numbers(100, 0, 5));
            refused(-1, x -> x.numbers(0, -1, 5));
            refused(-1, x -> x.numbers(0, 12, 5));
            refused(-1, x -> x.numbers(0, 0, 0));
            refused(-1, x -> x.numbers(0, 0, 10));
        });
        says("outside: -1", () -> {
            refused(-1, x -> x.outside(0, 0));
            refused(-1, x -> x.outside(10, 0));
            refused(-1, x -> x.outside(5, -1));
            refused(-1, x -> x.outside(5, 2));
        });
        says("owes: IllegalArgumentException: no such man, PERIOD", () -> {
            refused(THREW_ARGUMENT, x -> x.owes(5, 0));
            refused(THREW_ARGUMENT, x -> x.owes(-1, 0));
            refused(THREW_ARGUMENT, x -> x.owes(0, -1));
            refused(THREW_ARGUMENT, x -> x.owes(0, 100));
        });
        says("pay: n (1 .. 1000); -1", () -> {
            refused(-1, x -> x.pay(0, 0));
            refused(-1, x -> x.pay(0, -1));
            refused(-1, x -> x.pay(0, 1001));
            refused(-1, x -> x.pay(0, LEAST));
            refused(-1, x -> x.pay(0, GREATEST));
            refused(-1, x -> x.pay(5, 1));
            refused(-1, x -> x.pay(-1, 1));
        });
        says("pay: -2: above 100000", () -> {
            refusedIfFull(-2, x -> x.pay(0, 1));
            refusedIfFull(-2, x -> x.pay(0, 1000));
        });
        says("pay: -1 ahead of -2", () -> {
            refusedIfFull(-1, x -> x.pay(0, 1001));
            refusedIfFull(-1, x -> x.pay(0, 0));
        });
        says("moons: -1 (from above to)", () -> {
            refused(-1, x -> x.moons(1, 0));
            refused(-1, x -> x.moons(799, 798));
            refused(-1, x -> x.moons(-1, 5));
            refused(-1, x -> x.moons(5, 800));
        });
        says("count: -1 for others", () -> {
            refused(-1, x -> x.count(-1));
            refused(-1, x -> x.count(5));
            refused(-1, x -> x.count(LEAST));
        });
    }

    private static void ofShelves() {
        says("keep: -1", () -> {
            refused(-1, x -> x.keep(-1, 0, 0));
            refused(-1, x -> x.keep(8, 1, 0));
            for (int what : new int[] {-1, 2, 5, LEAST, GREATEST}) {
                refused(-1, x -> x.keep(1, what, 0));
                refused(-1, x -> x.keep(5, what, 0));
            }
            refused(-1, x -> x.keep(1, 1, -1));
            refused(-1, x -> x.keep(1, 1, 5));
            refused(-1, x -> x.keep(0, 3, -1));
            refused(-1, x -> x.keep(0, 3, 6));
            refused(-1, x -> x.keep(0, 4, -1));
            refused(-1, x -> x.keep(0, 4, 100));
            refusedIfFull(-1, x -> x.keep(0, 1, 16));
        });
        says("make: (what 3, 4; n up to 60)", () -> {
            refused(-1, x -> x.make(-1, 3, 1));
            refused(-1, x -> x.make(8, 3, 1));
            for (int what : new int[] {-1, 0, 1, 2, 5}) {
                refused(-1, x -> x.make(1, what, 1));
            }
            refused(-1, x -> x.make(1, 3, 61));
            refused(-1, x -> x.make(1, 4, 61));
            refused(-1, x -> x.make(1, 4, GREATEST));
        });
        says("make: -14: n is below 0", () -> {
            refused(-14, x -> x.make(1, 3, -1));
            refused(-14, x -> x.make(5, 4, -1));
            refused(-14, x -> x.make(0, 4, LEAST));
        });
        says("make: -1 ahead of -14", () -> {
            refused(-1, x -> x.make(8, 3, -1));
            refused(-1, x -> x.make(1, 5, -1));
        });
        says("element: IllegalArgumentException: no such SHELF", () -> {
            refused(THREW_ARGUMENT, x -> x.element(-1, 0));
            refused(THREW_ARGUMENT, x -> x.element(8, 0));
            refused(THREW_ARGUMENT, x -> x.element(8, -1));
        });
        says("element: IllegalStateException: nothing is held, it is no ROW, or has no such place", () -> {
            refused(THREW_STATE, x -> x.element(5, 0));
            refused(THREW_STATE, x -> x.element(5, -1));
            refused(THREW_STATE, x -> x.element(0, 0));
            refused(THREW_STATE, x -> x.element(7, 0));
            refused(THREW_STATE, x -> x.element(3, 5));
            refused(THREW_STATE, x -> x.element(3, -1));
            refused(THREW_STATE, x -> x.element(1, 100));
            refused(THREW_STATE, x -> x.element(2, 12));
            refused(THREW_STATE, x -> x.element(2, LEAST));
            refused(THREW_STATE, x -> x.element(2, GREATEST));
        });
    }

    private static void ofCopies() {
        says("copy: -1", () -> {
            refused(-1, x -> x.copy(-1, 0, 3, 0, 1));
            refused(-1, x -> x.copy(8, 0, 3, 0, 1));
            refused(-1, x -> x.copy(1, 0, -1, 0, 1));
            refused(-1, x -> x.copy(1, 0, 8, 0, 1));
        });
        says("copy: -11: of either", () -> {
            refused(-11, x -> x.copy(5, 0, 3, 0, 1));
            refused(-11, x -> x.copy(1, 0, 5, 0, 1));
            refused(-11, x -> x.copy(5, 0, 5, 0, 0));
        });
        says("copy: -12: one is no ROW, or they are not of one kind", () -> {
            refused(-12, x -> x.copy(0, 0, 3, 0, 1));
            refused(-12, x -> x.copy(1, 0, 0, 0, 1));
            refused(-12, x -> x.copy(0, 0, 6, 0, 0));
            refused(-12, x -> x.copy(1, 0, 4, 0, 1));
            refused(-12, x -> x.copy(2, 0, 3, 0, 1));
            refused(-12, x -> x.copy(2, 0, 7, 0, 0));
        });
        says("copy: -13: n, i or j is below 0", () -> {
            refused(-13, x -> x.copy(1, 0, 3, 0, -1));
            refused(-13, x -> x.copy(1, 2, 3, 2, -1));
            refused(-13, x -> x.copy(1, -1, 3, 0, 1));
            refused(-13, x -> x.copy(1, 0, 3, -1, 1));
            refused(-13, x -> x.copy(1, -1, 3, 0, 0));
            refused(-13, x -> x.copy(1, 0, 3, -1, 0));
            refused(-13, x -> x.copy(1, LEAST, 3, 0, 1));
            refused(-13, x -> x.copy(1, 0, 3, 0, LEAST));
        });
        says("copy: -13: or beyond either's end", () -> {
            refused(-13, x -> x.copy(1, 0, 3, 0, 6));
            refused(-13, x -> x.copy(1, 0, 3, 1, 5));
            refused(-13, x -> x.copy(1, 0, 3, 5, 1));
            refused(-13, x -> x.copy(1, 98, 3, 0, 3));
            refused(-13, x -> x.copy(1, 100, 3, 0, 1));
            refused(-13, x -> x.copy(3, 0, 1, 97, 4));
            refused(-13, x -> x.copy(3, 1, 1, 0, 5));
            refused(-13, x -> x.copy(1, 101, 3, 0, 0));
            refused(-13, x -> x.copy(1, 0, 3, 6, 0));
            refused(-13, x -> x.copy(7, 0, 7, 0, 1));
            refused(-13, x -> x.copy(2, 11, 4, 0, 2));
            // Sums that would wrap around below 0.
            refused(-13, x -> x.copy(1, GREATEST, 3, 0, 1));
            refused(-13, x -> x.copy(1, 1, 3, 0, GREATEST));
            refused(-13, x -> x.copy(1, 0, 3, GREATEST, 1));
            refused(-13, x -> x.copy(1, GREATEST, 3, GREATEST, GREATEST));
        });
        says("copy: -1 ahead of -11 ahead of -12 ahead of -13", () -> {
            refused(-1, x -> x.copy(8, -1, 5, -1, -1));
            refused(-1, x -> x.copy(5, -1, -1, -1, -1));
            refused(-11, x -> x.copy(5, -1, 0, -1, -1));
            refused(-11, x -> x.copy(0, -1, 5, -1, -1));
            refused(-12, x -> x.copy(0, -1, 1, -1, -1));
            refused(-12, x -> x.copy(1, -1, 2, -1, -1));
        });
    }

    private static void ofLawsOnShelves() {
        says("weight: -1, -11, -12", () -> {
            refused(-1, x -> x.weight(-1));
            refused(-1, x -> x.weight(8));
            refused(-11, x -> x.weight(5));
            for (int d : new int[] {1, 2, 3, 4, 7}) {
                refused(-12, x -> x.weight(d));
            }
        });
        says("toss: -1, -11, -12; -15: MARRY has none", () -> {
            refused(-1, x -> x.toss(-1));
            refused(-1, x -> x.toss(8));
            refused(-11, x -> x.toss(5));
            for (int d : new int[] {1, 2, 3, 4, 7}) {
                refused(-12, x -> x.toss(d));
            }
            refused(-15, x -> x.toss(6));
        });
    }

    public static void main(String[] args) {
        for (int view = 0; view < VIEWS; view++) {
            SEEN_OF_BUSY[view] = seen(busy(), view);
            SEEN_OF_FULL[view] = seen(full(), view);
        }
        ofMen();
        ofOneMan();
        ofLaws();
        ofOffices();
        ofMarriage();
        ofNumbers();
        ofShelves();
        ofCopies();
        ofLawsOnShelves();
        tellEnd();
    }
}
