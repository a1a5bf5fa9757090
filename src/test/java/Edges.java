import java.io.IOException;
import java.nio.file.Files;
import java.nio.file.Path;
import java.util.ArrayList;
import java.util.List;
import java.util.Set;
import java.util.TreeSet;
import java.util.function.Consumer;
import java.util.function.Supplier;
import java.util.function.ToLongFunction;

/**
 * What the tests of single sentences share. A sentence is quoted from the document, so that it can be
 * seen which of its words have a test, and that none is held against words that do not stand there.
 */
final class Edges {
    static final int LOW = Integer.MIN_VALUE;
    static final int HIGH = Integer.MAX_VALUE;
    static final int NONE = -1;
    static final int NO_BLISS = -1000000;
    static final String[] OWN_WORDS = ("person at night hinge meet hours worth noise loud wakeful dawn dusk harm date "
        + "or and not hour far").split(" ");
    private static final Set<String> HELPERS = Set.of("due", "bad", "good", "lying");
    private static final Path DOCUMENT = Path.of("../shared/DOC.md");
    /** Words of those sentences that are to be tested, if not all are. */
    private static String only = System.getProperty("only", "");

    private static final String DOC = readDocument();
    private static final boolean[] QUOTED = new boolean[DOC.length()];
    /** Sentences that do not hold, and all that were tested, each named by its part of the document, too. */
    static final Set<String> BROKEN = new TreeSet<>();
    static final Set<String> TESTED = new TreeSet<>();
    private static String heading = "";
    private static String now = "";
    private static int from;
    private static int seenHere;
    private static int seen;
    private static int wrong;

    private Edges() { }

    private static String readDocument() {
        try {
            return Files.exists(DOCUMENT) ? plain(Files.readString(DOCUMENT)) : "";
        } catch (IOException e) {
            return "";
        }
    }

    private static String plain(String text) {
        return text.replace("&lt;", "<").replace("&gt;", ">").replace("```text", " ").replace("```", " ").replaceAll("\\s+", " ");
    }

    static void only(String words) {
        only = words;
    }

    /** Sentences from here on stand behind these words of the document, in its order. */
    static void part(String words) {
        heading = words;
        from = DOC.indexOf(words);
        if (from < 0 && !DOC.isEmpty()) fail("no such part: " + words);
    }

    static void sentence(String words, Runnable test) {
        now = heading + " " + words;
        quote(words);
        if (!now.contains(only)) return;
        TESTED.add(now);
        seenHere = 0;
        try {
            test.run();
        } catch (RuntimeException e) {
            fail("was broken off by " + e);
        }
        if (seenHere == 0) fail("nothing was tested");
    }

    private static void quote(String words) {
        int at = DOC.isEmpty() ? -1 : DOC.indexOf(words, Math.max(from, 0));
        if (at < 0) {
            if (!DOC.isEmpty()) fail("not in the document, or not here");
            return;
        }
        for (int i = at; i < at + words.length(); i++) QUOTED[i] = true;
        from = at + words.length();
    }

    private static void fail(String why) {
        wrong++;
        BROKEN.add(now);
        if (wrong <= 30) System.out.println("\"" + now + "\": " + why);
    }

    /** Where the test stands: helpers of the tests that bear the same names as those here are passed over. */
    private static int line() {
        return StackWalker.getInstance().walk(s -> s.filter(f -> !f.getClassName().equals("Edges") && !HELPERS.contains(f.getMethodName()))
            .findFirst()).get().getLineNumber();
    }

    static void due(long got, long want) {
        seen++;
        seenHere++;
        if (got != want) fail("answered " + got + ", due is " + want + " (line " + line() + ")");
    }

    static void due(boolean got, boolean want) {
        due(got ? 1 : 0, want ? 1 : 0);
    }

    static void due(List<Long> got, List<Long> want) {
        due(got.equals(want), true);
    }

    /** All words between the two headings are quoted by a test, but for headings and faces of methods. */
    static void allQuoted(String first, String last) {
        if (DOC.isEmpty() || !only.isEmpty()) return;
        int end = DOC.indexOf(last);
        int at = DOC.indexOf(first);
        while (at >= 0 && at < end) {
            int to = at;
            while (to < end && QUOTED[to] == QUOTED[at]) to++;
            String part = DOC.substring(at, to);
            String words = part.replaceAll("## Promise \\d+: [A-Za-z ]+`[^`]*`:?", "").replaceAll("## Terms|==== \\d\\.|TOKENS:|FAULTS,|[^A-Za-z0-9]", "");
            now = part;
            if (!QUOTED[at] && !words.isEmpty()) fail("no test quotes these words");
            at = to;
        }
    }

    static void end(String name) {
        if (DOC.isEmpty()) System.out.println(name + ": the document is not at " + DOCUMENT + ", so no quotation was looked at");
        System.out.println(name + ": " + TESTED.size() + " sentences, " + (seen - wrong) + " of " + seen + " as due");
        if (wrong != 0 || seen == 0) System.exit(1);
    }

    static HingeTown told(String text) {
        return Check.told(text);
    }

    static void hours(HingeTown x, int n) {
        for (int i = 0; i < n; i++) x.hour();
    }

    /** The place is where the mark ^ stands, which is no part of the text. */
    static void bad(int fault, String marked) {
        HingeTown x = new HingeTown();
        String text = marked.replace("^", "");
        int town = Check.tell(x, text);
        boolean fine = town == NONE && x.fault(0) == fault && x.fault(1) == marked.indexOf('^');
        seen++;
        seenHere++;
        if (!fine) {
            fail("of " + marked + " came " + town + ", fault " + x.fault(0) + " at " + x.fault(1) + ", due is " + fault + " (line " + line() + ")");
        }
    }

    /** What stands at the place of the mark ^ may stand there, whatever else is wrong with it or behind it. */
    static void mayStand(String marked) {
        HingeTown x = new HingeTown();
        Check.tell(x, marked.replace("^", ""));
        seen++;
        seenHere++;
        if (x.fault(1) >= 0 && x.fault(1) <= marked.indexOf('^') && x.fault(0) <= 2) {
            fail("of " + marked + " came fault " + x.fault(0) + " at " + x.fault(1) + " (line " + line() + ")");
        }
    }

    static HingeTown good(String text) {
        HingeTown x = new HingeTown();
        boolean fine = Check.tell(x, text) >= 0 && x.fault(0) == 0 && x.fault(1) == NONE;
        seen++;
        seenHere++;
        if (!fine) fail("of " + text + " came fault " + x.fault(0) + " at " + x.fault(1) + " (line " + line() + ")");
        return x;
    }

    static void lying(HingeTown x, int... numbers) {
        due(x.about(12), numbers.length);
        for (int i = 0; i < numbers.length; i++) due(x.lies(i), numbers[i]);
        due(x.lies(numbers.length), NONE);
    }

    static final String BUSY = "person ann at 0;person bob at 2 night;person cat at 3 hinge;meet ann bob hours 2 worth 5;"
        + "meet bob cat hours 4 worth 3;meet ann cat hours 5 worth 2;noise bob at 2 loud 6;noise ann at 10 loud 4;"
        + "noise cat at 5 loud 3;wakeful ann 50;dusk 18+(date>99)*2;date 98;";

    /** A town with something in each part of it; some 100 calls, always the same. */
    static HingeTown busy() {
        HingeTown x = told(BUSY);
        x.later(3);
        x.lit(0, 12, true);
        x.lit(1, 0, false);
        x.later(2);
        x.untell(1);
        x.lit(2, 20, true);
        x.image(0);
        x.go(0, 1);
        hours(x, 30);
        x.hush(2);
        x.image(2);
        hours(x, 2);
        x.cut();
        x.undo();
        x.undo();
        int[] f = Check.feeds("person zed at 4 night");
        for (int i = 0; i < f.length; i += 5) x.feed(f[i], f[i + 1], f[i + 2], f[i + 3], f[i + 4]);
        x.end(21);
        return x;
    }

    private static void readNow(HingeTown x, List<Long> all) {
        for (int i = 0; i < 13; i++) all.add((long) x.about(i));
        for (int p = 0; p < 4; p++) for (int w = 0; w < 7; w++) all.add((long) x.person(p, w));
        for (int m = 0; m < 4; m++) for (int w = 0; w < 7; w++) all.add((long) x.meet(m, w));
    }

    private static void readAll(HingeTown x, List<Long> all) {
        readNow(x, all);
        for (int i = 0; i < 8; i++) all.add((long) x.lies(i));
        for (int h = 0; h < 24; h++) all.add((long) x.awake(98, h) + 8L * x.noise(0, h) + 1000L * x.noise(1, h));
        for (int k = -1; k < 8; k++) all.add((long) x.fits(k));
        for (int d = 98; d < 102; d++) all.add((long) x.can(d) + 8L * x.light(d, 1));
        for (int p = 0; p < 3; p++) all.add((long) x.sure(p, 5));
    }

    private static void takeBackAll(HingeTown x, List<Long> all) {
        for (int i = 0; i < 42; i++) {
            all.add(x.undo() ? 1L : 0L);
            for (int w = 3; w < 8; w++) all.add((long) x.about(w));
            all.add((long) x.person(0, 1));
            all.add((long) x.person(2, 4));
        }
    }

    private static void doAgainAll(HingeTown x, List<Long> all) {
        for (int i = 0; i < 4; i++) {
            all.add(x.redo() ? 1L : 0L);
            readNow(x, all);
        }
    }

    private static void openBoxes(HingeTown x, List<Long> all) {
        for (int box = 0; box < 3; box++) {
            all.add((long) x.back(box));
            readNow(x, all);
        }
    }

    private static void readTape(HingeTown x, List<Long> all) {
        all.add((long) x.about(10));
        all.add((long) x.feed(0x3b202020, 0x20202020, 0x20202020, 0x20202020, 0x20202020));
        all.add((long) x.town());
        readNow(x, all);
        all.add((long) x.fault(0));
        all.add((long) x.fault(1));
    }

    private static void takeBackLights(HingeTown x, List<Long> all) {
        all.add((long) x.later(1));
        for (int i = 0; i < 4; i++) {
            all.add(x.untell(i) ? 1L : 0L);
            for (int k = 0; k < 8; k++) all.add((long) x.fits(k));
        }
        all.add((long) x.lit(3, 3, true));
        for (int k = 0; k < 8; k++) all.add((long) x.fits(k));
    }

    private static List<Long> look(int how, HingeTown x) {
        List<Long> all = new ArrayList<>();
        switch (how) {
            case 0: readAll(x, all); break;
            case 6: for (int i = 0; i < 2; i++) all.add((long) x.fault(i)); break;
            case 1: takeBackAll(x, all); break;
            case 2: doAgainAll(x, all); break;
            case 3: openBoxes(x, all); break;
            case 4: readTape(x, all); break;
            default: takeBackLights(x, all); break;
        }
        return all;
    }

    private static void readPlan(HingeTown x, List<Long> all) {
        for (int i = 0; i < 13; i++) all.add((long) x.about(i));
        for (int p = 0; p < 7; p++) for (int w = 0; w < 7; w++) all.add((long) x.person(p, w));
        for (int m = 0; m < 10; m++) for (int w = 0; w < 7; w++) all.add((long) x.meet(m, w));
        for (int date : new int[] {0, 98, 364}) for (int w = 0; w < 2; w++) all.add((long) x.light(date, w));
    }

    private static void readSounds(HingeTown x, List<Long> all) {
        for (int p = 0; p < 7; p++) for (int h = 0; h < 24; h++) all.add((long) x.noise(p, h));
        for (int h = 0; h < 24; h++) all.add((long) x.hour());
        for (int p = 0; p < 7; p++) all.add((long) x.person(p, 4));
        for (int m = 0; m < 10; m++) all.add((long) x.meet(m, 5));
    }

    private static void askAll(HingeTown x, List<Long> all) {
        for (int date : new int[] {0, 364}) {
            for (int answer : new int[] {x.can(date), x.bliss(date), x.lonely(date), x.hinges(date), x.loudest(date, 0), x.loudest(date, 1)}) all.add((long) answer);
            for (int p = 0; p < 7; p++) all.add((long) x.harmed(p, date) + 10000L * x.joy(p, date));
            for (int m = 0; m < 10; m++) all.add((long) x.odds(m, date, 0) + 10001L * x.odds(m, date, 1));
        }
        for (int m = 0; m < 10; m++) all.add((long) x.never(m) + 366L * x.dates(m));
        for (int p = 0; p < 7; p++) {
            int q = (p + 3) % 7;
            for (int answer : new int[] {x.post(p, q), x.spread(p, 5), x.spread(q, 240), x.wake(p, q, 1), x.common(p, q, 0), x.sure(p, 0)}) all.add((long) answer);
        }
        all.add((long) x.cut());
        for (int i = 0; i < 8; i++) all.add((long) x.lies(i));
        all.add((long) x.rest());
        for (int i = 0; i < 8; i++) all.add((long) x.lies(i));
        for (int w = 0; w < 2; w++) all.add((long) x.shop(w) + 100L * x.ask(0, w, 0));
        all.add((long) x.fits(0));
    }

    /** Both answer the same to all that can be asked. */
    static void alike(Supplier<HingeTown> one, Supplier<HingeTown> other) {
        List<Long> got = new ArrayList<>();
        List<Long> want = new ArrayList<>();
        readPlan(one.get(), got);
        readPlan(other.get(), want);
        readSounds(one.get(), got);
        readSounds(other.get(), want);
        askAll(one.get(), got);
        askAll(other.get(), want);
        due(got, want);
    }

    private static void sameLooks(int looks, Consumer<HingeTown> call, Consumer<HingeTown> other) {
        for (int how = 0; how < looks; how++) {
            HingeTown x = busy();
            HingeTown y = busy();
            call.accept(x);
            other.accept(y);
            List<Long> got = look(how, x);
            List<Long> want = look(how, y);
            int at = 0;
            while (at < got.size() && got.get(at).equals(want.get(at))) at++;
            seen++;
            seenHere++;
            if (at < got.size()) fail("something changed: look " + how + ", answer " + at + " (line " + line() + ")");
        }
    }

    /** The call changes nothing that any later call could show, in a town with something in each part. */
    static void changesNothing(Consumer<HingeTown> call) {
        sameLooks(7, call, x -> { });
    }

    /** Of both calls all is the same behind them, but for what fault() answers. */
    static void changesNothingBut(Consumer<HingeTown> call, Consumer<HingeTown> other) {
        sameLooks(6, call, other);
    }

    /** The call answers so, and changes nothing. */
    static void refused(long answer, ToLongFunction<HingeTown> call) {
        due(call.applyAsLong(busy()), answer);
        changesNothing(call::applyAsLong);
    }
}
