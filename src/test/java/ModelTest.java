import java.util.Arrays;
import java.util.Random;

/** Long runs of calls, the same each time, asked of the program and of Model. */
public final class ModelTest {
    private static final int CALLS = 512;
    private static final int RUNS = 1500;
    private static final String[] NAMES = {
        "man", "son", "span", "death", "miss", "about", "step", "grade", "born", "forefather",
        "law", "holds", "could", "put", "empty", "holder", "held", "fill", "room", "breaches", "breach",
        "may", "marry", "numbers", "outside", "best", "owes", "pay", "moons", "count",
        "keep", "make", "element", "copy", "weight", "toss"
    };
    private static final int[] STRANGE = {-1, -2, 800, 801, 100, 40, 20, 12, 8, 6,
        Integer.MAX_VALUE, Integer.MIN_VALUE, Integer.MAX_VALUE - 7};

    private final Random random;
    private final AgeSets sets = new AgeSets();
    private final Model model = new Model();
    /** How far apart births, periods and offices lie in this run: close ones meet more often. */
    private final int years;
    private final int periods;
    private final int strangeness;

    private ModelTest(int seed) {
        random = new Random(seed);
        years = new int[] {800, 200, 60}[seed % 3];
        periods = new int[] {100, 30, 12}[seed / 3 % 3];
        strangeness = new int[] {12, 60, 400}[seed / 9 % 3];
    }

    private int below(int bound) {
        if (random.nextInt(strangeness) == 0) {
            return STRANGE[random.nextInt(STRANGE.length)];
        }
        return random.nextInt(bound);
    }

    private int anyMan() {
        return below(Math.max(1, (int) model.count(0)));
    }

    private int anyPeriod() {
        return random.nextInt(10) == 0 ? below(100) : below(periods);
    }

    private int last(int first) {
        return first + new int[] {0, 1, 9, 40, 300, -1}[random.nextInt(40) == 0 ? 5 : random.nextInt(5)];
    }

    private int told() {
        return random.nextInt(20) == 0 ? random.nextInt(70) - 5
                : random.nextInt(8) == 0 ? 50 : 10 * random.nextInt(5) + below(6);
    }

    private int[] arguments(String name) {
        int year = below(years);
        switch (name) {
            case "man": return new int[] {below(2), year, last(year)};
            case "son": return new int[] {anyMan(), year, last(year)};
            case "span": return new int[] {anyMan(), year, last(year), anyPeriod()};
            case "death": return new int[] {anyMan(), random.nextInt(4) == 0 ? below(801) : 300 + below(501)};
            case "miss": return new int[] {random.nextInt(2) == 0 ? 0 : anyMan(), anyPeriod()};
            case "about": return new int[] {anyMan(), below(8)};
            case "grade": return new int[] {anyMan(), anyPeriod(), below(12)};
            case "born": return new int[] {anyMan(), below(3)};
            case "forefather": return new int[] {anyMan(), anyMan()};
            case "law": return new int[] {told(), below(random.nextInt(3) == 0 ? 21 : 7), anyPeriod(), 1 + below(20)};
            case "holds": return new int[] {below(Math.max(1, (int) model.count(1))), anyPeriod()};
            case "could": case "put": return new int[] {anyMan(), below(6), anyPeriod()};
            case "empty": case "holder": return new int[] {below(6), anyPeriod()};
            case "fill": case "room": return new int[] {anyPeriod()};
            case "breaches": case "best": return new int[] {};
            case "breach": return new int[] {below(Math.max(1, (int) model.breaches()))};
            case "may": case "marry": return new int[] {anyMan(), year};
            case "numbers": return new int[] {anyPeriod(), below(12), below(11)};
            case "outside": return new int[] {1 + below(9), below(2)};
            case "pay": return new int[] {anyMan(), 1 + below(1000)};
            case "moons": return new int[] {year, last(year)};
            case "count": return new int[] {below(5)};
            case "keep": return new int[] {below(8), new int[] {0, 1, 1, 3, 3, 4, 4, 2}[random.nextInt(8)],
                below(random.nextInt(2) == 0 ? 6 : 100)};
            case "make": return new int[] {below(8), 3 + below(2), below(61)};
            case "element": return new int[] {below(8), below(random.nextInt(2) == 0 ? 12 : 100)};
            case "copy": return new int[] {below(8), below(30), below(8), below(30), below(12)};
            case "weight": case "toss": return new int[] {below(8)};
            default: return new int[] {anyMan(), anyPeriod()};
        }
    }

    private long asked(String name, int[] a) {
        switch (name) {
            case "man": return sets.man(a[0], a[1], a[2]);
            case "son": return sets.son(a[0], a[1], a[2]);
            case "span": return sets.span(a[0], a[1], a[2], a[3]);
            case "death": return sets.death(a[0], a[1]);
            case "miss": return sets.miss(a[0], a[1]);
            case "about": return sets.about(a[0], a[1]);
            case "step": return sets.step(a[0], a[1]);
            case "grade": return sets.grade(a[0], a[1], a[2]);
            case "born": return sets.born(a[0], a[1]);
            case "forefather": return sets.forefather(a[0], a[1]);
            case "law": return sets.law(a[0], a[1], a[2], a[3]);
            case "holds": return sets.holds(a[0], a[1]);
            case "could": return sets.could(a[0], a[1], a[2]);
            case "put": return sets.put(a[0], a[1], a[2]);
            case "empty": return sets.empty(a[0], a[1]);
            case "holder": return sets.holder(a[0], a[1]);
            case "held": return sets.held(a[0], a[1]);
            case "fill": return sets.fill(a[0]);
            case "room": return sets.room(a[0]);
            case "breaches": return sets.breaches();
            case "breach": return sets.breach(a[0]);
            case "may": return sets.may(a[0], a[1]);
            case "marry": return sets.marry(a[0], a[1]);
            case "numbers": return sets.numbers(a[0], a[1], a[2]);
            case "outside": return sets.outside(a[0], a[1]);
            case "best": return sets.best();
            case "owes": return sets.owes(a[0], a[1]);
            case "pay": return sets.pay(a[0], a[1]);
            case "moons": return sets.moons(a[0], a[1]);
            case "count": return sets.count(a[0]);
            case "keep": return sets.keep(a[0], a[1], a[2]);
            case "make": return sets.make(a[0], a[1], a[2]);
            case "element": return sets.element(a[0], a[1]);
            case "copy": return sets.copy(a[0], a[1], a[2], a[3], a[4]);
            case "weight": return sets.weight(a[0]);
            case "toss": return sets.toss(a[0]);
            default: throw new IllegalStateException(name);
        }
    }

    private long due(String name, int[] a) {
        switch (name) {
            case "man": return model.man(a[0], a[1], a[2]);
            case "son": return model.son(a[0], a[1], a[2]);
            case "span": return model.span(a[0], a[1], a[2], a[3]);
            case "death": return model.death(a[0], a[1]);
            case "miss": return model.miss(a[0], a[1]);
            case "about": return model.about(a[0], a[1]);
            case "step": return model.step(a[0], a[1]);
            case "grade": return model.grade(a[0], a[1], a[2]);
            case "born": return model.born(a[0], a[1]);
            case "forefather": return model.forefather(a[0], a[1]);
            case "law": return model.law(a[0], a[1], a[2], a[3]);
            case "holds": return model.holds(a[0], a[1]);
            case "could": return model.could(a[0], a[1], a[2]);
            case "put": return model.put(a[0], a[1], a[2]);
            case "empty": return model.empty(a[0], a[1]);
            case "holder": return model.holder(a[0], a[1]);
            case "held": return model.held(a[0], a[1]);
            case "fill": return model.fill(a[0]);
            case "room": return model.room(a[0]);
            case "breaches": return model.breaches();
            case "breach": return model.breach(a[0]);
            case "may": return model.may(a[0], a[1]);
            case "marry": return model.marry(a[0], a[1]);
            case "numbers": return model.numbers(a[0], a[1], a[2]);
            case "outside": return model.outside(a[0], a[1]);
            case "best": return model.best();
            case "owes": return model.owes(a[0], a[1]);
            case "pay": return model.pay(a[0], a[1]);
            case "moons": return model.moons(a[0], a[1]);
            case "count": return model.count(a[0]);
            case "keep": return model.keep(a[0], a[1], a[2]);
            case "make": return model.make(a[0], a[1], a[2]);
            case "element": return model.element(a[0], a[1]);
            case "copy": return model.copy(a[0], a[1], a[2], a[3], a[4]);
            case "weight": return model.weight(a[0]);
            case "toss": return model.toss(a[0]);
            default: throw new IllegalStateException(name);
        }
    }

    private long answer(String name, int[] a) {
        try {
            return asked(name, a);
        } catch (IllegalArgumentException e) {
            return Model.THROWS_ARGUMENT;
        } catch (IllegalStateException e) {
            return Model.THROWS_STATE;
        }
    }

    private String anyName(int call) {
        if (call < 60 && random.nextInt(2) == 0) {
            return new String[] {"man", "son", "son", "law", "miss"}[random.nextInt(5)];
        }
        return NAMES[random.nextInt(NAMES.length)];
    }

    /** Prints the first call whose answer is wrong: what follows it tells no more. */
    private boolean agrees(int seed) {
        for (int call = 0; call < CALLS; call++) {
            String name = anyName(call);
            int[] a = arguments(name);
            long got = answer(name, a);
            long want = due(name, a);
            if (got != want) {
                System.out.println("seed " + seed + ", call " + call + ": " + name + Arrays.toString(a)
                        + " answered " + got + ", due is " + want);
                return false;
            }
        }
        return true;
    }

    public static void main(String[] args) {
        int wrong = 0;
        for (int seed = 0; seed < RUNS && wrong < 5; seed++) {
            if (!new ModelTest(seed).agrees(seed)) {
                wrong++;
            }
        }
        System.out.println(wrong == 0 ? "the program and the model agree" : wrong + " runs do not agree");
        if (wrong != 0) {
            System.exit(1);
        }
    }
}
