import java.util.ArrayList;
import java.util.Arrays;
import java.util.HashMap;
import java.util.List;
import java.util.Map;
import java.util.Set;
import java.util.TreeSet;
import java.util.function.IntPredicate;

/**
 * The document once more, in the plainest way and with the Java library, to hold the class against:
 * hour by hour, side by side, with no bits reckoned at once and nothing remembered between calls.
 */
final class NaiveTown {
    private static final Set<String> OWN_WORDS = new TreeSet<>(Arrays.asList("person", "at", "night",
        "hinge", "meet", "hours", "worth", "noise", "loud", "wakeful", "dawn", "dusk", "harm", "date",
        "or", "and", "not", "hour", "far"));

    private interface Expression {
        int value(Map<String, Integer> given);
    }

    private static final class Fault extends RuntimeException {
        final int kind;
        final int place;

        Fault(int kind, int place) {
            super(null, null, false, false);
            this.kind = kind;
            this.place = place;
        }
    }

    private record Token(String kind, String text, int place) { }

    private record Meet(int one, int other, int hours, int worth) { }

    private record Noise(int person, int hour, int loud) { }

    private record Light(int house, int hour, boolean is, int told) { }

    /** All that a text tells. */
    private static final class Text {
        final List<String> names = new ArrayList<>();
        final List<Integer> houses = new ArrayList<>();
        final List<Integer> sides = new ArrayList<>();
        final Map<Integer, Integer> wakeful = new HashMap<>();
        final List<Meet> meets = new ArrayList<>();
        final List<Noise> noises = new ArrayList<>();
        final Map<String, Expression> formulas = new HashMap<>();
        Integer date;
        int units;
    }

    private static final class Now {
        int[] sides = new int[0];
        boolean[] quiet = new boolean[0];
        int[] suffered = new int[0];
        int[] together = new int[0];
        int[] met = new int[0];
        int hour;
        int date;

        Now copy() {
            Now c = new Now();
            c.sides = sides.clone();
            c.quiet = quiet.clone();
            c.suffered = suffered.clone();
            c.together = together.clone();
            c.met = met.clone();
            c.hour = hour;
            c.date = date;
            return c;
        }
    }

    private static final class Parser {
        final List<Token> tokens = new ArrayList<>();
        final Text town = new Text();
        int i;
        int unitsHere;

        Parser(String text) {
            int at = 0;
            while (at < text.length()) {
                char c = text.charAt(at);
                int end = at + 1;
                if (c == ' ' || c == '\n') {
                    at = end;
                    continue;
                }
                String kind = ";()<>=+-*/%".indexOf(c) >= 0 ? String.valueOf(c) : "bad";
                if (c >= 'a' && c <= 'z') {
                    while (end < text.length() && Character.toString(text.charAt(end)).matches("[a-z]")) end++;
                    String word = text.substring(at, end);
                    kind = word.length() > 8 ? "bad" : OWN_WORDS.contains(word) ? word : "NAME";
                } else if (c >= '0' && c <= '9') {
                    while (end < text.length() && Character.toString(text.charAt(end)).matches("[0-9]")) end++;
                    boolean letter = end < text.length() && Character.toString(text.charAt(end)).matches("[a-z]");
                    kind = end - at > 4 || letter ? "bad" : "N";
                }
                tokens.add(new Token(kind, text.substring(at, end), at));
                at = end;
            }
            tokens.add(new Token("end", "", text.length()));
        }

        Token here() {
            return tokens.get(i);
        }

        Fault fault(int kind) {
            return new Fault(here().kind.equals("bad") ? 1 : kind, here().place);
        }

        boolean is(String... kinds) {
            return Arrays.asList(kinds).contains(here().kind);
        }

        Token pass(String kind) {
            if (!is(kind)) throw fault(2);
            return tokens.get(i++);
        }

        int number(int least, int most) {
            if (!is("N")) throw fault(2);
            int n = Integer.parseInt(here().text);
            if (n < least || n > most) throw fault(4);
            i++;
            return n;
        }

        int known() {
            if (!is("NAME")) throw fault(2);
            int p = town.names.indexOf(here().text);
            if (p < 0) throw fault(5);
            i++;
            return p;
        }

        Text parse() {
            while (!is("end")) {
                line();
            }
            return town;
        }

        void line() {
            if (is("person") && town.names.size() < 7) {
                i++;
                if (is("NAME") && town.names.contains(here().text)) throw fault(3);
                String name = pass("NAME").text;
                pass("at");
                town.houses.add(number(0, 9));
                town.sides.add(is("night") ? 1 : is("hinge") ? 2 : 0);
                if (is("night", "hinge")) i++;
                pass(";");
                town.names.add(name);
            } else if (is("meet") && town.meets.size() < 10) {
                i++;
                int one = known();
                int other = known();
                for (Meet m : town.meets) {
                    if (m.one == one && m.other == other || m.one == other && m.other == one) {
                        i--;
                        throw fault(3);
                    }
                }
                if (one == other) {
                    i--;
                    throw fault(3);
                }
                pass("hours");
                int hours = number(1, 24);
                pass("worth");
                town.meets.add(new Meet(one, other, hours, number(1, 99)));
                pass(";");
            } else if (is("noise") && town.noises.size() < 8) {
                i++;
                int person = known();
                pass("at");
                int hour = number(0, 23);
                for (Noise n : town.noises) {
                    if (n.person == person && n.hour == hour) {
                        i--;
                        throw fault(3);
                    }
                }
                pass("loud");
                town.noises.add(new Noise(person, hour, number(1, 20)));
                pass(";");
            } else if (is("wakeful")) {
                i++;
                int person = known();
                if (town.wakeful.containsKey(person)) {
                    i--;
                    throw fault(3);
                }
                town.wakeful.put(person, number(0, 100));
                pass(";");
            } else if (is("date") && town.date == null) {
                i++;
                town.date = number(0, 364);
                pass(";");
            } else if (is("dawn", "dusk", "harm") && !town.formulas.containsKey(here().kind)) {
                String what = tokens.get(i++).kind;
                unitsHere = 0;
                town.formulas.put(what, either(0));
                pass(";");
            } else {
                throw fault(2);
            }
        }

        Expression either(int around) {
            Expression all = both(around);
            while (is("or")) {
                i++;
                Expression a = all;
                Expression b = both(around);
                all = g -> a.value(g) != 0 | b.value(g) != 0 ? 1 : 0;
            }
            return all;
        }

        Expression both(int around) {
            Expression all = one(around);
            while (is("and")) {
                i++;
                Expression a = all;
                Expression b = one(around);
                all = g -> a.value(g) != 0 & b.value(g) != 0 ? 1 : 0;
            }
            return all;
        }

        Expression one(int around) {
            if (is("not")) {
                if (around >= 7) throw fault(2);
                i++;
                Expression a = one(around + 1);
                return g -> a.value(g) == 0 ? 1 : 0;
            }
            Expression a = sum(around);
            if (!is("<", ">", "=")) return a;
            String sign = tokens.get(i++).kind;
            Expression b = sum(around);
            return g -> {
                int order = Integer.compare(a.value(g), b.value(g));
                return (sign.equals("<") ? order < 0 : sign.equals(">") ? order > 0 : order == 0) ? 1 : 0;
            };
        }

        Expression sum(int around) {
            Expression all = term(around);
            while (is("+", "-")) {
                boolean plus = tokens.get(i++).kind.equals("+");
                Expression a = all;
                Expression b = term(around);
                all = g -> plus ? a.value(g) + b.value(g) : a.value(g) - b.value(g);
            }
            return all;
        }

        Expression term(int around) {
            Expression all = unit(around);
            while (is("*", "/", "%")) {
                String sign = tokens.get(i++).kind;
                Expression a = all;
                Expression b = unit(around);
                all = g -> {
                    long x = a.value(g);
                    long y = b.value(g);
                    if (sign.equals("*")) return (int) (x * y);
                    if (y == 0) return 0;
                    return (int) (sign.equals("/") ? x / y : x % y);
                };
            }
            return all;
        }

        Expression unit(int around) {
            if (!is("N", "date", "hour", "loud", "far", "(")) throw fault(2);
            if (town.units == 60 || unitsHere == 30) throw fault(2);
            if (is("(") && around >= 7) throw fault(2);
            town.units++;
            unitsHere++;
            Token t = tokens.get(i++);
            if (t.kind.equals("(")) {
                Expression inner = either(around + 1);
                pass(")");
                return inner;
            }
            if (t.kind.equals("N")) {
                int n = Integer.parseInt(t.text);
                return g -> n;
            }
            return g -> g.get(t.kind);
        }
    }

    private String tape = "";
    private Text text = new Text();
    private Now now = new Now();
    private final List<Now> past = new ArrayList<>();
    private final List<Now> future = new ArrayList<>();
    private final Now[] boxes = new Now[3];
    private List<Integer> lying = new ArrayList<>();
    private final List<Light> lights = new ArrayList<>();
    private final List<Integer> untold = new ArrayList<>();
    private int time;
    private int fault;
    private int place = -1;

    public int feed(int a, int b, int c, int d, int e) {
        if (tape.length() + 20 > 1600) return -1;
        for (int four : new int[] {a, b, c, d, e}) {
            for (int shift = 24; shift >= 0; shift -= 8) tape += (char) (four >>> shift & 255);
        }
        return tape.length();
    }

    public int end(int n) {
        if (n < 0 || n > tape.length()) return -1;
        tape = tape.substring(0, n);
        return n;
    }

    public int town() {
        String told = tape;
        tape = "";
        try {
            text = new Parser(told).parse();
        } catch (Fault f) {
            fault = f.kind;
            place = f.place;
            return -1;
        }
        fault = 0;
        place = -1;
        int n = persons();
        now = new Now();
        now.sides = text.sides.stream().mapToInt(s -> s).toArray();
        now.quiet = new boolean[n];
        now.suffered = new int[n];
        now.together = new int[text.meets.size()];
        now.met = new int[text.meets.size()];
        now.date = text.date == null ? 0 : text.date;
        past.clear();
        future.clear();
        Arrays.fill(boxes, null);
        lying.clear();
        lights.clear();
        untold.clear();
        return n;
    }

    private int persons() {
        return text.names.size();
    }

    private boolean isPerson(int p) {
        return p >= 0 && p < persons();
    }

    private boolean isMeet(int m) {
        return m >= 0 && m < text.meets.size();
    }

    private static boolean isDate(int d) {
        return d >= 0 && d <= 364;
    }

    private static boolean isHour(int h) {
        return h >= 0 && h <= 23;
    }

    private int formula(String which, int otherwise, int date, int hour, int loud, int far) {
        Expression e = text.formulas.get(which);
        return e == null ? otherwise : e.value(Map.of("date", date, "hour", hour, "loud", loud, "far", far));
    }

    private int dawn(int date) {
        return Math.max(0, Math.min(11, formula("dawn", 6, date, 0, 0, 0)));
    }

    private int dusk(int date) {
        return Math.max(12, Math.min(23, formula("dusk", 18, date, 0, 0, 0)));
    }

    private static int clockwise(int a, int b) {
        int d = Math.abs(a - b);
        return Math.min(d, 24 - d);
    }

    private boolean wakes(int side, int date, int hour) {
        boolean day = hour >= dawn(date) && hour < dusk(date);
        if (side == 0) return day;
        if (side == 1) return !day;
        return clockwise(hour, dawn(date)) <= 2 || clockwise(hour, dusk(date)) <= 2;
    }

    private int harm(int p, int date, int hour, int[] sides, boolean[] quiet) {
        if (wakes(sides[p], date, hour)) return 0;
        int sum = 0;
        for (Noise n : text.noises) {
            if (n.hour != hour || n.person == p || quiet[n.person] || !wakes(sides[n.person], date, hour)) continue;
            int far = Math.abs(text.houses.get(n.person) - text.houses.get(p));
            sum += Math.max(0, Math.min(99, formula("harm", n.loud - far, date, hour, n.loud, far)));
        }
        return sum;
    }

    private int harmOn(int p, int date, int[] sides, boolean[] quiet) {
        int sum = 0;
        for (int h = 0; h < 24; h++) sum += harm(p, date, h, sides, quiet);
        return sum;
    }

    private int allHarm(int date, int[] sides, boolean[] quiet) {
        int sum = 0;
        for (int p = 0; p < persons(); p++) sum += harmOn(p, date, sides, quiet);
        return sum;
    }

    private int commonOf(int p, int q, int date, int[] sides) {
        int count = 0;
        for (int h = 0; h < 24; h++) if (wakes(sides[p], date, h) && wakes(sides[q], date, h)) count++;
        return count;
    }

    private boolean canBe(Meet m, int date, int[] sides) {
        return commonOf(m.one, m.other, date, sides) >= m.hours;
    }

    private int blissOf(int date, int[] sides) {
        int sum = -allHarm(date, sides, now.quiet);
        for (Meet m : text.meets) if (canBe(m, date, sides)) sum += m.worth;
        return sum;
    }

    private int joyOf(int p, int date, int[] sides) {
        int sum = -harmOn(p, date, sides, now.quiet);
        for (Meet m : text.meets) if ((m.one == p || m.other == p) && canBe(m, date, sides)) sum += m.worth;
        return sum;
    }

    private void act() {
        past.add(now.copy());
        if (past.size() > 40) past.remove(0);
        future.clear();
    }

    public int fault(int what) {
        return what == 0 ? fault : what == 1 ? place : -1;
    }

    public int person(int p, int what) {
        if (!isPerson(p)) return -1;
        int[] all = {text.houses.get(p), now.sides[p], now.quiet[p] ? 1 : 0,
            wakes(now.sides[p], now.date, now.hour) ? 1 : 0, now.suffered[p],
            text.wakeful.getOrDefault(p, 0), harm(p, now.date, now.hour, now.sides, now.quiet)};
        return what >= 0 && what < all.length ? all[what] : -1;
    }

    public int meet(int m, int what) {
        if (!isMeet(m)) return -1;
        Meet t = text.meets.get(m);
        int[] all = {t.one, t.other, t.hours, t.worth, now.together[m], now.met[m],
            canBe(t, now.date, now.sides) ? 1 : 0};
        return what >= 0 && what < all.length ? all[what] : -1;
    }

    public int light(int date, int what) {
        return !isDate(date) ? -1 : what == 0 ? dawn(date) : what == 1 ? dusk(date) : -1;
    }

    private static int bits(int n, IntPredicate is) {
        int bits = 0;
        for (int i = 0; i < n; i++) if (is.test(i)) bits |= 1 << i;
        return bits;
    }

    public int awake(int date, int hour) {
        if (!isDate(date) || !isHour(hour)) return -1;
        return bits(persons(), p -> wakes(now.sides[p], date, hour));
    }

    public int noise(int person, int hour) {
        if (!isPerson(person) || !isHour(hour)) return -1;
        for (Noise n : text.noises) if (n.person == person && n.hour == hour) return n.loud;
        return 0;
    }

    public int go(int person, int side) {
        if (!isPerson(person) || side < 0 || side > 2 || now.sides[person] == side) return -1;
        act();
        int was = now.sides[person];
        now.sides[person] = side;
        return was;
    }

    public int hush(int person) {
        if (!isPerson(person)) return -1;
        act();
        now.quiet[person] = !now.quiet[person];
        return now.quiet[person] ? 1 : 0;
    }

    public int hour() {
        act();
        int all = 0;
        for (int p = 0; p < persons(); p++) {
            int h = harm(p, now.date, now.hour, now.sides, now.quiet);
            now.suffered[p] += h;
            all += h;
        }
        for (int m = 0; m < text.meets.size(); m++) {
            Meet t = text.meets.get(m);
            if (wakes(now.sides[t.one], now.date, now.hour) && wakes(now.sides[t.other], now.date, now.hour)) now.together[m]++;
        }
        if (now.hour < 23) {
            now.hour++;
            return all;
        }
        now.hour = 0;
        now.date = now.date == 364 ? 0 : now.date + 1;
        for (int m = 0; m < text.meets.size(); m++) {
            if (now.together[m] >= text.meets.get(m).hours) now.met[m]++;
            now.together[m] = 0;
        }
        return all;
    }

    public boolean undo() {
        if (past.isEmpty()) return false;
        future.add(now);
        now = past.remove(past.size() - 1);
        return true;
    }

    public boolean redo() {
        if (future.isEmpty()) return false;
        past.add(now);
        now = future.remove(future.size() - 1);
        return true;
    }

    public int common(int p, int q, int date) {
        return isPerson(p) && isPerson(q) && isDate(date) ? commonOf(p, q, date, now.sides) : -1;
    }

    public int can(int date) {
        return isDate(date) ? bits(text.meets.size(), m -> canBe(text.meets.get(m), date, now.sides)) : -1;
    }

    public int never(int meet) {
        if (!isMeet(meet)) return -1;
        for (int d = now.date; d < now.date + 365; d++) {
            if (!canBe(text.meets.get(meet), d % 365, now.sides)) return d % 365;
        }
        return -1;
    }

    public int dates(int meet) {
        if (!isMeet(meet)) return -1;
        int count = 0;
        for (int d = 0; d < 365; d++) if (canBe(text.meets.get(meet), d, now.sides)) count++;
        return count;
    }

    public int harmed(int person, int date) {
        return isPerson(person) && isDate(date) ? harmOn(person, date, now.sides, now.quiet) : -1;
    }

    public int bliss(int date) {
        return isDate(date) ? blissOf(date, now.sides) : -1000000;
    }

    public int cut() {
        int n = persons();
        int best = Integer.MIN_VALUE;
        int fewest = 0;
        int[] chosen = new int[n];
        for (int code = 0; code < Math.pow(3, n); code++) {
            int[] sides = new int[n];
            int rest = code;
            for (int p = n - 1; p >= 0; p--) {
                sides[p] = rest % 3;
                rest /= 3;
            }
            int changes = 0;
            for (int p = 0; p < n; p++) if (sides[p] != now.sides[p]) changes++;
            int bliss = blissOf(now.date, sides);
            if (bliss > best || bliss == best && changes < fewest) {
                best = bliss;
                fewest = changes;
                chosen = sides;
            }
        }
        lay(chosen);
        return best;
    }

    private void lay(int[] numbers) {
        lying = new ArrayList<>();
        for (int n : numbers) lying.add(n);
    }

    public int joy(int person, int date) {
        return isPerson(person) && isDate(date) ? joyOf(person, date, now.sides) : -1000000;
    }

    public int lonely(int date) {
        if (!isDate(date)) return -1;
        return bits(persons(), p -> text.meets.stream()
            .noneMatch(m -> (m.one == p || m.other == p) && canBe(m, date, now.sides)));
    }

    public int hinges(int date) {
        if (!isDate(date)) return -1;
        return bits(24, h -> awake(date, h) == (1 << persons()) - 1);
    }

    public int loudest(int date, int what) {
        if (!isDate(date) || what < 0 || what > 1) return -1;
        int who = -1;
        int least = Integer.MAX_VALUE;
        for (int p = 0; p < persons(); p++) {
            if (now.quiet[p]) continue;
            boolean[] quiet = now.quiet.clone();
            quiet[p] = true;
            int harm = allHarm(date, now.sides, quiet);
            if (harm < least) {
                least = harm;
                who = p;
            }
        }
        return who < 0 || what == 0 ? who : allHarm(date, now.sides, now.quiet) - least;
    }

    public int rest() {
        List<int[]> behind = new ArrayList<>();
        behind.add(now.sides.clone());
        for (int round = 0; round <= 20; round++) {
            int[] sides = behind.get(round).clone();
            for (int p = 0; p < sides.length; p++) {
                int own = sides[p];
                int[] joys = new int[3];
                for (int s = 0; s < 3; s++) {
                    sides[p] = s;
                    joys[s] = joyOf(p, now.date, sides);
                }
                int most = Math.max(joys[0], Math.max(joys[1], joys[2]));
                sides[p] = joys[own] == most ? own : joys[0] == most ? 0 : joys[1] == most ? 1 : 2;
            }
            if (Arrays.equals(sides, behind.get(round))) {
                lay(sides);
                return round;
            }
            behind.add(sides);
        }
        lay(new int[0]);
        return -1;
    }

    public int shop(int what) {
        if (what < 0 || what > 1 || persons() == 0) return -1;
        int[] best = null;
        for (int from = 0; from < 24; from++) {
            for (int to = from; to < 24; to++) {
                boolean all = true;
                for (int p = 0; p < persons(); p++) {
                    boolean served = false;
                    for (int h = from; h <= to; h++) served |= wakes(now.sides[p], now.date, h);
                    all &= served;
                }
                if (all && (best == null || to - from + 1 < best[1])) best = new int[] {from, to - from + 1};
            }
        }
        return best == null ? -1 : best[what];
    }

    private Set<Integer> give(Set<Integer> have, IntPredicate up) {
        Set<Integer> all = new TreeSet<>(have);
        boolean more = true;
        while (more) {
            more = false;
            for (Meet m : text.meets) {
                if (up.test(m.one) && up.test(m.other) && all.contains(m.one) != all.contains(m.other)) {
                    all.add(m.one);
                    all.add(m.other);
                    more = true;
                }
            }
        }
        return all;
    }

    private Set<Integer> behind(int person, int hours) {
        Set<Integer> have = new TreeSet<>(Set.of(person));
        int date = now.date;
        int hour = now.hour;
        for (int i = 0; i < hours; i++) {
            int d = date;
            int h = hour;
            have = give(have, p -> wakes(now.sides[p], d, h));
            hour++;
            if (hour == 24) {
                hour = 0;
                date = (date + 1) % 365;
            }
        }
        return have;
    }

    public int post(int person, int other) {
        if (!isPerson(person) || !isPerson(other)) return -1;
        if (!behind(person, 240).contains(other)) return -1;
        int n = 0;
        while (!behind(person, n).contains(other)) n++;
        return n;
    }

    public int spread(int person, int n) {
        if (!isPerson(person) || n < 0 || n > 240) return -1;
        return bits(persons(), behind(person, n)::contains);
    }

    public int wake(int person, int other, int what) {
        if (!isPerson(person) || !isPerson(other) || person == other || what < 0 || what > 1) return -1;
        for (int size = 0; size <= persons(); size++) {
            for (int set = 0; set < 1 << persons(); set++) {
                int woken = set;
                IntPredicate isUp = p -> wakes(now.sides[p], now.date, now.hour);
                boolean asleep = true;
                for (int p = 0; p < persons(); p++) asleep &= (set >> p & 1) == 0 || !isUp.test(p);
                if (Integer.bitCount(set) != size || !asleep) continue;
                Set<Integer> have = give(Set.of(person), p -> isUp.test(p) || (woken >> p & 1) == 1);
                if (have.contains(other)) return what == 0 ? size : set;
            }
        }
        return -1;
    }

    public int odds(int meet, int date, int part) {
        if (!isMeet(meet) || !isDate(date) || part < 0 || part > 1) return -1;
        Meet m = text.meets.get(meet);
        int upper = 0;
        for (int x = 0; x < 100; x++) {
            for (int y = 0; y < 100; y++) {
                boolean one = x < text.wakeful.getOrDefault(m.one, 0);
                boolean other = y < text.wakeful.getOrDefault(m.other, 0);
                int count = 0;
                for (int h = 0; h < 24; h++) {
                    boolean a = one || wakes(now.sides[m.one], 0 + date, h);
                    boolean b = other || wakes(now.sides[m.other], 0 + date, h);
                    if (a && b) count++;
                }
                if (count >= m.hours) upper++;
            }
        }
        int lower = 10000;
        for (int d : new int[] {2, 2, 2, 2, 5, 5, 5, 5}) {
            if (upper % d == 0 && lower % d == 0) {
                upper /= d;
                lower /= d;
            }
        }
        return part == 0 ? upper : lower;
    }

    public int lies(int i) {
        return i >= 0 && i < lying.size() ? lying.get(i) : -1;
    }

    public int lit(int house, int hour, boolean is) {
        if (house < 0 || house > 9 || !isHour(hour) || lights.size() == 30) return -1;
        lights.add(new Light(house, hour, is, time));
        untold.add(null);
        return lights.size() - 1;
    }

    public boolean untell(int lit) {
        if (lit < 0 || lit >= lights.size() || untold.get(lit) != null) return false;
        untold.set(lit, time);
        return true;
    }

    public int later(int by) {
        if (by < 0 || by > 1000 || time + by > 100000) return -1;
        return time += by;
    }

    private boolean lightAt(int way, int house, int hour) {
        for (int p = 0; p < persons(); p++) {
            if (text.houses.get(p) == house && wakes(way >> p & 1, now.date, hour)) return true;
        }
        return false;
    }

    private List<Integer> ways(int k) {
        List<Integer> fit = new ArrayList<>();
        for (int way = 0; way < 1 << persons(); way++) {
            boolean all = true;
            for (int i = 0; i < lights.size(); i++) {
                Light l = lights.get(i);
                boolean counts = l.told <= k && !(untold.get(i) != null && untold.get(i) <= k);
                if (counts && lightAt(way, l.house, l.hour) != l.is) all = false;
            }
            if (all) fit.add(way);
        }
        return fit;
    }

    public int fits(int k) {
        return ways(k).size();
    }

    public int sure(int person, int k) {
        if (!isPerson(person) || ways(k).isEmpty()) return -1;
        Set<Integer> sides = new TreeSet<>();
        for (int way : ways(k)) sides.add(way >> person & 1);
        return sides.size() > 1 ? -2 : sides.iterator().next();
    }

    public int ask(int house, int what, int k) {
        List<Integer> ways = ways(k);
        if (house < 0 || house > 9 || what < 0 || what > 1 || ways.isEmpty()) return -1;
        int[] best = null;
        for (int h = 0; h < 24; h++) {
            int hour = h;
            int lit = (int) ways.stream().filter(w -> lightAt(w, house, hour)).count();
            int left = Math.max(lit, ways.size() - lit);
            if (best == null || left < best[1]) best = new int[] {h, left};
        }
        return best[what];
    }

    public int image(int box) {
        if (box < 0 || box > 2) return -1;
        boxes[box] = now.copy();
        return now.date;
    }

    public int back(int box) {
        if (box < 0 || box > 2 || boxes[box] == null) return -1;
        now = boxes[box].copy();
        past.clear();
        future.clear();
        return now.date;
    }

    public int about(int what) {
        int[] all = {persons(), text.meets.size(), text.noises.size(), now.hour, now.date,
            bits(persons(), p -> now.quiet[p]), past.size(), future.size(), lights.size(), time,
            tape.length(), text.units, lying.size()};
        return what >= 0 && what < all.length ? all[what] : -1;
    }
}
