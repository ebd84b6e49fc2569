import java.util.ArrayList;
import java.util.Arrays;
import java.util.List;

/**
 * The document told over again in the slowest and most literal way: every YEAR of a span is tried,
 * and fillings are found by augmenting paths. Answers are longs; throws are THROWS_*.
 */
final class Model {
    static final long THROWS_ARGUMENT = Long.MIN_VALUE + 1;
    static final long THROWS_STATE = Long.MIN_VALUE + 2;

    private static final class Person {
        int father = -2;
        int half;
        int first;
        int last;
        int death = 800;
        int wedding = -2;
        int paid;
        List<Integer> rites = new ArrayList<>();
    }

    private record Rule(int kind, int office, int n, int since, int length) { }

    private final List<Person> people = new ArrayList<>();
    private final List<Rule> rules = new ArrayList<>();
    private final int[][] holders = new int[6][100];
    /** null, a Rule, a byte[] or an int[]. */
    private final Object[] shelves = new Object[8];

    Model() {
        for (int[] row : holders) {
            Arrays.fill(row, -1);
        }
    }

    private static boolean in(int value, int least, int most) {
        return value >= least && value <= most;
    }

    private boolean noMan(int m) {
        return !in(m, 0, people.size() - 1);
    }

    private int step(int m, int birthYear, int q, int d) {
        Person he = people.get(m);
        if (he.father < 0) {
            return q - birthYear / 8;
        }
        return step(he.father, people.get(he.father).first, q, d) - d;
    }

    private int gradeBorn(int m, int year, int q, int d) {
        int grade = step(m, year, q, d);
        for (int rite : people.get(m).rites) {
            if (rite <= q) {
                grade--;
            }
        }
        return grade < 0 ? 0 : Math.min(grade, 11);
    }

    private boolean lives(int m, int q) {
        Person he = people.get(m);
        return he.first <= 8 * q + 7 && !(he.death <= 8 * q);
    }

    /** 0 early, 1 late, 2 in time. */
    private int birthKind(int m, int year, int d) {
        Person he = people.get(m);
        if (he.father < 0) {
            return 2;
        }
        int s = step(he.father, people.get(he.father).first, year / 8, d);
        return s < d ? 0 : s > 2 * d ? 1 : 2;
    }

    private static int told(int yes, int all) {
        return yes == 0 ? 0 : yes == all ? 2 : 1;
    }

    long man(int half, int first, int last) {
        if (!in(half, 0, 1) || !in(first, 0, 799) || !in(last, 0, 799) || first > last) return -1;
        if (people.size() == 40) return -2;
        Person he = new Person();
        he.half = half;
        he.first = first;
        he.last = last;
        people.add(he);
        return people.size() - 1;
    }

    long son(int father, int first, int last) {
        if (noMan(father) || !in(first, 0, 799) || !in(last, 0, 799) || first > last) return -1;
        if (people.size() == 40) return -2;
        Person his = people.get(father);
        if (!(last > his.first) || first - his.death >= 2) return -3;
        man(his.half, first, last);
        people.get(people.size() - 1).father = father;
        return people.size() - 1;
    }

    long span(int m, int first, int last, int q) {
        if (noMan(m) || !in(first, 0, 799) || !in(last, 0, 799) || first > last || !in(q, 0, 99)) return -1;
        List<Integer> before = new ArrayList<>();
        for (int i = 0; i < people.size(); i++) {
            before.add(lives(i, q) ? gradeBorn(i, people.get(i).first, q, 5) : -7);
        }
        people.get(m).first = first;
        people.get(m).last = last;
        int others = 0;
        for (int i = 0; i < people.size(); i++) {
            if (before.get(i) != -7 && lives(i, q) && gradeBorn(i, people.get(i).first, q, 5) != before.get(i)) {
                others++;
            }
        }
        return others;
    }

    long death(int m, int year) {
        if (noMan(m) || !in(year, 0, 800)) return -1;
        int before = people.get(m).death;
        people.get(m).death = year;
        return before;
    }

    long miss(int m, int q) {
        if (noMan(m) || !in(q, 0, 99)) return -1;
        if (people.get(m).rites.size() == 20) return -2;
        people.get(m).rites.add(q);
        return people.get(m).rites.size();
    }

    long about(int m, int what) {
        if (noMan(m) || !in(what, 0, 7)) return -1;
        Person he = people.get(m);
        int sons = 0;
        for (Person other : people) {
            if (other.father == m) {
                sons++;
            }
        }
        return new int[] {he.father, he.half, he.first, he.last, he.death, he.rites.size(), he.wedding, sons}[what];
    }

    long step(int m, int q) {
        if (noMan(m) || !in(q, 0, 99)) return THROWS_ARGUMENT;
        return step(m, people.get(m).first, q, 5);
    }

    long grade(int m, int q, int g) {
        if (noMan(m) || !in(q, 0, 99) || !in(g, 0, 11)) return -1;
        if (!lives(m, q)) return -4;
        Person he = people.get(m);
        int yes = 0;
        for (int y = he.first; y <= he.last; y++) {
            if (gradeBorn(m, y, q, 5) == g) {
                yes++;
            }
        }
        return told(yes, he.last - he.first + 1);
    }

    long born(int m, int what) {
        if (noMan(m) || !in(what, 0, 2)) return -1;
        Person he = people.get(m);
        int yes = 0;
        for (int y = he.first; y <= he.last; y++) {
            if (birthKind(m, y, 5) == what) {
                yes++;
            }
        }
        return told(yes, he.last - he.first + 1);
    }

    long forefather(int m, int other) {
        if (noMan(m) || noMan(other)) return -1;
        List<Integer> chain = new ArrayList<>();
        for (int i = m; i >= 0; i = people.get(i).father) {
            chain.add(i);
        }
        int greatest = -2;
        for (int i = other; i >= 0; i = people.get(i).father) {
            if (chain.contains(i)) {
                greatest = Math.max(greatest, i);
            }
        }
        return greatest;
    }

    long law(int t, int n, int q, int length) {
        boolean known = t == 50;
        for (int kind = 0; kind < 5; kind++) {
            for (int office = 0; office < 6; office++) {
                known |= t == 10 * kind + office;
            }
        }
        if (!known || !in(q, 0, 99) || !in(length, 1, 20)) return -1;
        int kind = t / 10;
        if ((kind == 0 || kind == 1 || kind == 5) && !in(n, 0, 11)) return -1;
        if (kind == 2 && !in(n, 1, 20)) return -1;
        if (rules.size() == 16) return -2;
        rules.add(new Rule(kind, t % 10, n, q, length));
        return rules.size() - 1;
    }

    private static boolean holdsIn(Rule rule, int q) {
        return rule.since <= q && q <= rule.since + rule.length - 1;
    }

    long holds(int law, int q) {
        if (!in(law, 0, rules.size() - 1) || !in(q, 0, 99)) return -1;
        return holdsIn(rules.get(law), q) ? 1 : 0;
    }

    private boolean kept(Rule rule, int m, int year, int q) {
        switch (rule.kind) {
            case 0:
            case 5:
                return gradeBorn(m, year, q, 5) >= rule.n;
            case 1:
                return gradeBorn(m, year, q, 5) <= rule.n;
            case 2:
                for (int back = 1; back <= rule.n; back++) {
                    if (q - back >= 0 && holders[rule.office][q - back] == m) {
                        return false;
                    }
                }
                return true;
            case 3:
                return people.get(m).half == (q % 2 == 0 ? 0 : 1);
            default:
                return birthKind(m, year, 5) == 2;
        }
    }

    private int byRules(int m, boolean marriage, int office, int q) {
        Person he = people.get(m);
        boolean all = true;
        for (Rule rule : rules) {
            boolean asked = marriage ? rule.kind == 5 : rule.kind != 5 && rule.office == office;
            if (asked && holdsIn(rule, q)) {
                boolean some = false;
                for (int y = he.first; y <= he.last; y++) {
                    boolean kept = kept(rule, m, y, q);
                    some |= kept;
                    all &= kept;
                }
                if (!some) {
                    return 0;
                }
            }
        }
        return all ? 2 : 1;
    }

    long could(int m, int office, int q) {
        if (noMan(m) || !in(office, 0, 5) || !in(q, 0, 99)) return -1;
        if (!lives(m, q)) return 0;
        for (int o = 0; o < 6; o++) {
            if (o != office && holders[o][q] == m) {
                return 0;
            }
        }
        return byRules(m, false, office, q);
    }

    long put(int m, int office, int q) {
        if (noMan(m) || !in(office, 0, 5) || !in(q, 0, 99)) return -1;
        for (int o = 0; o < 6; o++) {
            if (o != office && holders[o][q] == m) {
                return -3;
            }
        }
        int before = holders[office][q];
        holders[office][q] = m;
        return before < 0 ? -2 : before;
    }

    long empty(int office, int q) {
        if (!in(office, 0, 5) || !in(q, 0, 99)) return -1;
        int before = holders[office][q];
        holders[office][q] = -1;
        return before < 0 ? -3 : before;
    }

    long holder(int office, int q) {
        if (!in(office, 0, 5) || !in(q, 0, 99)) return -1;
        return holders[office][q] < 0 ? -2 : holders[office][q];
    }

    long held(int m, int q) {
        if (noMan(m) || !in(q, 0, 99)) return -1;
        int found = 0;
        for (int o = 0; o < 6; o++) {
            for (int p = 0; p < q; p++) {
                found += holders[o][p] == m ? 1 : 0;
            }
        }
        return found;
    }

    private boolean[][] able(int q) {
        boolean[][] able = new boolean[6][people.size()];
        for (int o = 0; o < 6; o++) {
            for (int m = 0; m < people.size(); m++) {
                boolean free = holders[o][q] < 0;
                for (int other = 0; other < 6; other++) {
                    free &= holders[other][q] != m;
                }
                able[o][m] = free && could(m, o, q) == 2;
            }
        }
        return able;
    }

    private static boolean augment(boolean[][] able, int office, boolean[] seen, int[] officeOf) {
        for (int m = 0; m < officeOf.length; m++) {
            if (able[office][m] && !seen[m]) {
                seen[m] = true;
                if (officeOf[m] < 0 || augment(able, officeOf[m], seen, officeOf)) {
                    officeOf[m] = office;
                    return true;
                }
            }
        }
        return false;
    }

    private static int greatest(boolean[][] able) {
        int[] officeOf = new int[able[0].length];
        Arrays.fill(officeOf, -1);
        int size = 0;
        for (int o = 0; o < 6; o++) {
            size += augment(able, o, new boolean[officeOf.length], officeOf) ? 1 : 0;
        }
        return size;
    }

    /** What is left when a man is put into an office: he is able for it alone, it for him alone. */
    private static boolean[][] fixed(boolean[][] able, int office, int man) {
        boolean[][] left = new boolean[6][];
        for (int o = 0; o < 6; o++) {
            left[o] = able[o].clone();
            left[o][man] = false;
        }
        Arrays.fill(left[office], false);
        left[office][man] = true;
        return left;
    }

    long fill(int q) {
        if (!in(q, 0, 99)) return -1;
        boolean[][] able = able(q);
        int most = greatest(able);
        for (int o = 0; o < 6; o++) {
            for (int m = 0; m < people.size(); m++) {
                if (able[o][m]) {
                    boolean[][] left = fixed(able, o, m);
                    if (greatest(left) == most) {
                        able = left;
                        holders[o][q] = m;
                        break;
                    }
                }
            }
        }
        return most;
    }

    long room(int q) {
        return in(q, 0, 99) ? greatest(able(q)) : -1;
    }

    private List<Integer> allBreaches() {
        List<Integer> found = new ArrayList<>();
        for (int q = 0; q < 100; q++) {
            for (int o = 0; o < 6; o++) {
                int m = holders[o][q];
                if (m >= 0) {
                    holders[o][q] = -1;
                    if (could(m, o, q) == 0) {
                        found.add(10 * q + o);
                    }
                    holders[o][q] = m;
                }
            }
        }
        return found;
    }

    long breaches() {
        return allBreaches().size();
    }

    long breach(int i) {
        if (i < 0) return -1;
        List<Integer> all = allBreaches();
        return i < all.size() ? all.get(i) : -3;
    }

    long may(int m, int year) {
        if (noMan(m) || !in(year, 0, 799)) return -1;
        if (!lives(m, year / 8) || people.get(m).wedding != -2) return 0;
        return byRules(m, true, 0, year / 8);
    }

    long marry(int m, int year) {
        if (noMan(m) || !in(year, 0, 799)) return -1;
        if (!lives(m, year / 8) || people.get(m).wedding != -2) return -3;
        long may = may(m, year);
        people.get(m).wedding = year;
        return may;
    }

    long numbers(int q, int g, int d) {
        if (!in(q, 0, 99) || !in(g, 0, 11) || !in(d, 1, 9)) return -1;
        int found = 0;
        for (int m = 0; m < people.size(); m++) {
            found += lives(m, q) && gradeBorn(m, people.get(m).first, q, d) == g ? 1 : 0;
        }
        return found;
    }

    long outside(int d, int what) {
        if (!in(d, 1, 9) || !in(what, 0, 1)) return -1;
        int found = 0;
        for (int m = 0; m < people.size(); m++) {
            found += birthKind(m, people.get(m).first, d) == what ? 1 : 0;
        }
        return found;
    }

    long best() {
        long best = 0;
        long least = Long.MAX_VALUE;
        for (int d : new int[] {5, 4, 6, 3, 7, 2, 8, 1, 9}) {
            long both = outside(d, 0) + outside(d, 1);
            if (both < least) {
                least = both;
                best = d;
            }
        }
        return best;
    }

    long owes(int m, int q) {
        if (noMan(m) || !in(q, 0, 99)) return THROWS_ARGUMENT;
        long sum = -people.get(m).paid;
        for (int p = 0; p <= q; p++) {
            sum += lives(m, p) ? gradeBorn(m, people.get(m).first, p, 5) : 0;
        }
        return sum;
    }

    long pay(int m, int n) {
        if (noMan(m) || !in(n, 1, 1000)) return -1;
        if (people.get(m).paid > 100000 - n) return -2;
        return people.get(m).paid += n;
    }

    long moons(int from, int to) {
        if (!in(from, 0, 799) || !in(to, 0, 799) || from > to) return -1;
        int found = 0;
        for (int y = 0; y < 800; y++) {
            found += in(y, from, to) && Math.floorMod(7 * y + 1, 19) < 7 ? 1 : 0;
        }
        return found;
    }

    long count(int what) {
        int holdings = 0;
        int rites = 0;
        int married = 0;
        for (int m = 0; m < people.size(); m++) {
            holdings += (int) held(m, 99);
            for (int[] row : holders) {
                holdings += row[99] == m ? 1 : 0;
            }
            rites += people.get(m).rites.size();
            married += people.get(m).wedding == -2 ? 0 : 1;
        }
        return in(what, 0, 4) ? new int[] {people.size(), rules.size(), holdings, rites, married}[what] : -1;
    }

    long keep(int d, int what, int k) {
        if (!in(d, 0, 7)) return -1;
        if (what == 0) {
            shelves[d] = null;
        } else if (what == 1 && in(k, 0, rules.size() - 1)) {
            shelves[d] = rules.get(k);
        } else if (what == 3 && in(k, 0, 5)) {
            byte[] row = new byte[100];
            for (int q = 0; q < 100; q++) {
                row[q] = (byte) holders[k][q];
            }
            shelves[d] = row;
        } else if (what == 4 && in(k, 0, 99)) {
            int[] row = new int[12];
            for (int g = 0; g < 12; g++) {
                row[g] = (int) numbers(k, g, 5);
            }
            shelves[d] = row;
        } else {
            return -1;
        }
        return 0;
    }

    long make(int d, int what, int n) {
        if (!in(d, 0, 7) || !in(what, 3, 4) || n > 60) return -1;
        if (n < 0) return -14;
        shelves[d] = what == 3 ? new byte[n] : new int[n];
        return 0;
    }

    private static int lengthOf(Object row) {
        return row instanceof byte[] bytes ? bytes.length : ((int[]) row).length;
    }

    private static boolean isRow(Object thing) {
        return thing instanceof byte[] || thing instanceof int[];
    }

    long element(int d, int i) {
        if (!in(d, 0, 7)) return THROWS_ARGUMENT;
        if (!isRow(shelves[d]) || !in(i, 0, lengthOf(shelves[d]) - 1)) return THROWS_STATE;
        return shelves[d] instanceof byte[] bytes ? bytes[i] : ((int[]) shelves[d])[i];
    }

    long copy(int d, int i, int e, int j, int n) {
        if (!in(d, 0, 7) || !in(e, 0, 7)) return -1;
        if (shelves[d] == null || shelves[e] == null) return -11;
        if (!isRow(shelves[d]) || shelves[d].getClass() != shelves[e].getClass()) return -12;
        if (n < 0 || i < 0 || j < 0) return -13;
        if ((long) i + n > lengthOf(shelves[d]) || (long) j + n > lengthOf(shelves[e])) return -13;
        long[] between = new long[n];
        for (int k = 0; k < n; k++) {
            between[k] = element(d, i + k);
        }
        for (int k = 0; k < n; k++) {
            if (shelves[e] instanceof byte[] bytes) {
                bytes[j + k] = (byte) between[k];
            } else {
                ((int[]) shelves[e])[j + k] = (int) between[k];
            }
        }
        return n;
    }

    long weight(int d) {
        if (!in(d, 0, 7)) return -1;
        if (shelves[d] == null) return -11;
        if (!(shelves[d] instanceof Rule rule)) return -12;
        switch (rule.kind) {
            case 0: return 10 + 100 * (rule.office + 1) + rule.n;
            case 1: return 11 + 100 * (rule.office + 1) + rule.n;
            case 2: return 2 * (12 + 100 * (rule.office + 1) + rule.n);
            case 3: return 13 + 100 * (rule.office + 1);
            case 4: return 14 + 100 * (rule.office + 1);
            default: return 15 + rule.n;
        }
    }

    long toss(int d) {
        if (!in(d, 0, 7)) return -1;
        if (shelves[d] == null) return -11;
        if (!(shelves[d] instanceof Rule rule)) return -12;
        return rule.kind == 5 ? -15 : rule.office;
    }
}
