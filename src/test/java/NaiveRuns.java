import java.util.ArrayList;
import java.util.List;
import java.util.Random;

/** Random towns, texts with faults and runs of calls, each answer held against NaiveTown's. */
public final class NaiveRuns {
    private static final String[] NAMES = {"ann", "bob", "cat", "dan", "eve", "fay", "abcdefgh", "x"};
    private static final int[] FAR_OFF = {Integer.MIN_VALUE, Integer.MAX_VALUE, -2, -1, 1 << 31, 1000, 365, 24, 7};

    private final Random random;
    private HingeTown x = new HingeTown();
    private NaiveTown y = new NaiveTown();
    private final List<String> log = new ArrayList<>();
    private int calls;
    private boolean wrong;

    private NaiveRuns(long seed) {
        // Neighbouring seeds would begin alike.
        random = new Random(seed * 0x9E3779B97F4A7C15L);
    }

    private int below(int n) {
        return random.nextInt(n);
    }

    private int about(int n) {
        return below(25) == 0 ? FAR_OFF[below(FAR_OFF.length)] : below(12) == 0 ? below(n + 3) - 1 : below(n);
    }

    private void same(String call, long got, long want) {
        calls++;
        log.add(call + " -> " + got);
        if (got != want && !wrong) {
            wrong = true;
            for (String s : log) System.out.println("  " + s);
            System.out.println(call + " answered " + got + ", NaiveTown says " + want);
        }
    }

    private static int one(boolean b) {
        return b ? 1 : 0;
    }

    private String expression(int depth, String[] given) {
        switch (depth <= 0 ? below(2) : below(10)) {
            case 0: return String.valueOf(below(4) == 0 ? below(10000) : below(25));
            case 1: return given[below(given.length)];
            case 2: return "(" + expression(depth - 1, given) + ")";
            case 3: return "(not " + expression(depth - 1, given) + ")";
            case 4: return expression(depth - 1, given) + (below(2) == 0 ? " and " : " or ") + expression(depth - 1, given);
            case 5: return "(" + expression(depth - 2, given) + "<>=".charAt(below(3)) + expression(depth - 2, given) + ")";
            default: return expression(depth - 1, given) + "+-*/%".charAt(below(5)) + expression(depth - 1, given);
        }
    }

    private String town() {
        StringBuilder s = new StringBuilder();
        // A full town has as many of each sort as there can be.
        boolean full = below(4) == 0;
        int n = full ? 7 : below(8);
        int tries = full ? 200 : 10;
        int meets = 0;
        int noises = 0;
        for (int p = 0; p < n; p++) {
            s.append("person ").append(NAMES[p]).append(" at ").append(below(3) == 0 ? below(10) : below(3))
                .append(new String[] {"", " night", " hinge"}[below(3)]).append(";");
        }
        for (int i = 0; i < tries && meets < 10 && n > 1; i++) {
            int a = below(n);
            int b = below(n);
            String x1 = "meet " + NAMES[a] + " " + NAMES[b];
            String x2 = "meet " + NAMES[b] + " " + NAMES[a];
            if (a != b && s.indexOf(x1 + " hours") < 0 && s.indexOf(x2 + " hours") < 0 && below(4) > 0) {
                s.append(x1).append(" hours ").append(1 + below(below(3) == 0 ? 24 : 8)).append(" worth ").append(1 + below(below(2) == 0 ? 99 : 12)).append(";\n");
                meets++;
            }
        }
        for (int i = 0; i < tries && noises < 8 && n > 0; i++) {
            String noise = "noise " + NAMES[below(n)] + " at " + below(24) + " loud ";
            if (s.indexOf(noise) < 0 && below(4) > 0) {
                s.append(noise).append(1 + below(20)).append("; ");
                noises++;
            }
        }
        for (int p = 0; p < n; p++) if (below(3) == 0) s.append("wakeful ").append(NAMES[p]).append(" ").append(below(101)).append(";");
        if (below(2) == 0) s.append("dawn ").append(expression(3, new String[] {"date", "date", "hour", "far"})).append(";");
        if (below(2) == 0) s.append("dusk 18 + ").append(expression(3, new String[] {"date", "date", "loud"})).append(";");
        if (below(2) == 0) s.append("harm ").append(expression(4, new String[] {"date", "hour", "loud", "far", "loud"})).append(";");
        if (below(2) == 0) s.append("date ").append(below(3) == 0 ? 364 - below(2) : below(365)).append(";");
        return s.toString();
    }

    private String spoilt(String text) {
        StringBuilder s = new StringBuilder(text);
        String[] parts = {"person ", "at ", ";", "night ", "5x", "12345", "abcdefghi", "(", ")", "not ", "99", "0", "ann ",
            "zed ", "$", "\t", "\u00e9", " ", "\n", "", "meet ann bob hours 2 worth 3;", "person ann at 1;", "dawn 3;", "dusk 3;",
            "date 1;", "harm 1;", "noise ann at 2 loud 2;", "wakeful ann 4;", "meet bob ann hours 1 worth 1;", "meet ann ann hours 1 worth 1;",
            "person x at 3 hinge;", "wakeful bob 100;wakeful bob 3;", "noise ann at 2 loud 2;noise ann at 02 loud 3;", "+1", "-", "<2", "=3>4", "hours ", "or ", "and ",
            "((((((((1))))))))", "not not not not not not not not 1", "1+1+1+1+1+1+1+1+1+1+1+1+1+1+1+1+1+1+1+1+1+1+1+1+1+1+1+1+1+1+1"};
        for (int i = below(3); i >= 0 && s.length() > 0; i--) {
            int at = below(s.length());
            int to = Math.min(s.length(), at + (below(3) == 0 ? 0 : below(8)));
            int line = s.indexOf(";", at) + 1;
            switch (below(4)) {
                case 0: s.replace(at, to, ""); break;
                case 1: s.replace(at, to, parts[below(parts.length)]); break;
                case 2: s.insert(line, parts[below(parts.length)]); break;
                default: spoilNumber(s, at); break;
            }
        }
        if (below(4) == 0) s.setLength(below(s.length() + 1));
        return s.toString();
    }

    private void spoilNumber(StringBuilder s, int from) {
        for (int i = from; i < s.length(); i++) {
            if (Character.isDigit(s.charAt(i))) {
                s.insert(i, below(40));
                return;
            }
        }
    }

    private void tell(String text) {
        same("end(0)", x.end(0), y.end(0));
        int[] f = Check.feeds(text);
        for (int i = 0; i < f.length; i += 5) {
            same("feed", x.feed(f[i], f[i + 1], f[i + 2], f[i + 3], f[i + 4]), y.feed(f[i], f[i + 1], f[i + 2], f[i + 3], f[i + 4]));
        }
        same("end(" + text.length() + ")", x.end(text.length()), y.end(text.length()));
        same("town() of " + text, x.town(), y.town());
        same("fault(0)", x.fault(0), y.fault(0));
        same("fault(1)", x.fault(1), y.fault(1));
        same("about(11)", x.about(11), y.about(11));
    }

    private void act() {
        int a = about(7);
        int b = about(3);
        switch (below(9)) {
            case 0: case 1: same("go(" + a + "," + b + ")", x.go(a, b), y.go(a, b)); break;
            case 2: same("hush(" + a + ")", x.hush(a), y.hush(a)); break;
            case 3: same("undo()", one(x.undo()), one(y.undo())); break;
            case 4: same("redo()", one(x.redo()), one(y.redo())); break;
            case 5: same("image(" + b + ")", x.image(b), y.image(b)); break;
            case 6: if (below(3) == 0) same("back(" + b + ")", x.back(b), y.back(b)); break;
            case 7:
                for (int i = below(30); i >= 0; i--) same("hour()", x.hour(), y.hour());
                break;
            default: same("hour()", x.hour(), y.hour()); break;
        }
    }

    private void look() {
        int p = about(7);
        int q = about(7);
        int w = about(8);
        int t = about(2);
        int d = about(365);
        int h = about(24);
        int m = about(10);
        int k = about(12);
        switch (below(30)) {
            case 0: same("person " + p + " " + w, x.person(p, w), y.person(p, w)); break;
            case 1: same("meet " + m + " " + w, x.meet(m, w), y.meet(m, w)); break;
            case 2: same("light " + d + " " + t, x.light(d, t), y.light(d, t)); break;
            case 3: same("awake " + d + " " + h, x.awake(d, h), y.awake(d, h)); break;
            case 4: same("noise " + p + " " + h, x.noise(p, h), y.noise(p, h)); break;
            case 5: same("common " + p + " " + q + " " + d, x.common(p, q, d), y.common(p, q, d)); break;
            case 6: same("can " + d, x.can(d), y.can(d)); break;
            case 7: same("never " + m, x.never(m), y.never(m)); break;
            case 8: same("dates " + m, x.dates(m), y.dates(m)); break;
            case 9: same("harmed " + p + " " + d, x.harmed(p, d), y.harmed(p, d)); break;
            case 10: same("bliss " + d, x.bliss(d), y.bliss(d)); break;
            case 11: if (below(8) == 0 || y.about(0) < 5) same("cut", x.cut(), y.cut()); break;
            case 12: same("joy " + p + " " + d, x.joy(p, d), y.joy(p, d)); break;
            case 13: same("lonely " + d, x.lonely(d), y.lonely(d)); break;
            case 14: same("hinges " + d, x.hinges(d), y.hinges(d)); break;
            case 15: same("loudest " + d + " " + t, x.loudest(d, t), y.loudest(d, t)); break;
            case 16: same("rest", x.rest(), y.rest()); break;
            case 17: same("shop " + t, x.shop(t), y.shop(t)); break;
            case 18: same("post " + p + " " + q, x.post(p, q), y.post(p, q)); break;
            case 19: same("spread " + p + " " + h * 11, x.spread(p, h * 11), y.spread(p, h * 11)); break;
            case 20: same("wake " + p + " " + q + " " + t, x.wake(p, q, t), y.wake(p, q, t)); break;
            case 21: same("odds " + m + " " + d + " " + t, x.odds(m, d, t), y.odds(m, d, t)); break;
            case 22: same("lies " + p, x.lies(p), y.lies(p)); break;
            case 23: same("lit " + m + " " + h, x.lit(m, h, t == 0), y.lit(m, h, t == 0)); break;
            case 24: same("untell " + m, one(x.untell(m)), one(y.untell(m))); break;
            case 25: same("later " + t, x.later(t), y.later(t)); break;
            case 26: same("fits " + k, x.fits(k), y.fits(k)); break;
            case 27: same("sure " + p + " " + k, x.sure(p, k), y.sure(p, k)); break;
            case 28: same("ask " + m + " " + t + " " + k, x.ask(m, t, k), y.ask(m, t, k)); break;
            default: same("fault " + t, x.fault(t), y.fault(t)); break;
        }
    }

    private void lookAtAll() {
        for (int w = -1; w < 14; w++) {
            same("about " + w, x.about(w), y.about(w));
            for (int p = -1; p < 8 && w < 8; p++) same("person " + p + " " + w, x.person(p, w), y.person(p, w));
            for (int m = -1; m < 11 && w < 8; m++) same("meet " + m + " " + w, x.meet(m, w), y.meet(m, w));
            same("lies " + w, x.lies(w), y.lies(w));
        }
    }

    private boolean runOnce() {
        tell(below(20) == 0 ? "" : town());
        for (int i = 0; i < 60 && !wrong; i++) {
            int which = below(20);
            if (which == 0) tell(spoilt(town()));
            else if (which == 1) lookAtAll();
            else if (which < 8) act();
            else look();
        }
        lookAtAll();
        return !wrong;
    }

    private boolean faultsOnly() {
        for (int i = 0; i < 40 && !wrong; i++) tell(spoilt(town()));
        return !wrong;
    }

    public static void main(String[] args) {
        int runs = args.length > 0 ? Integer.parseInt(args[0]) : 300;
        long first = args.length > 1 ? Long.parseLong(args[1]) : 1;
        int calls = 0;
        for (long seed = first; seed < first + runs; seed++) {
            NaiveRuns run = new NaiveRuns(seed);
            boolean fine = seed % 5 == 0 ? run.faultsOnly() : run.runOnce();
            calls += run.calls;
            if (!fine) {
                System.out.println("seed " + seed);
                System.exit(1);
            }
        }
        System.out.println("NaiveRuns: " + calls + " calls as NaiveTown says");
    }
}
