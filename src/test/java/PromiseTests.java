/** Each promise of the document by itself, with answers reckoned by hand from its words. */
public final class PromiseTests {
    private static final int LOW = Integer.MIN_VALUE;
    private static final int HIGH = Integer.MAX_VALUE;
    /** ann is awake 6 .. 17 (19 behind date 99), bob at all others, cat 4 .. 8 and 16 .. 20. */
    private static final String STREET = "person ann at 0;person bob at 2 night;person cat at 3 hinge;"
        + "meet ann bob hours 2 worth 5;meet bob cat hours 4 worth 3;meet ann cat hours 5 worth 2;"
        + "noise bob at 2 loud 6;noise ann at 10 loud 4;noise cat at 5 loud 3;wakeful ann 50;"
        + "dusk 18+(date>99)*2;date 98;";
    private static final String TWO = "person a at 1;person b at 1 night;";

    private static final Check check = new Check();

    private static void due(String what, long got, long want) {
        check.due(what, got, want);
    }

    private static void due(String what, boolean got, boolean want) {
        check.due(what, got, want);
    }

    private static HingeTown told(String text) {
        return Check.told(text);
    }

    private static void hours(HingeTown x, int n) {
        for (int i = 0; i < n; i++) x.hour();
    }

    private static void newObject() {
        HingeTown x = new HingeTown();
        for (int what = 0; what <= 12; what++) due("1 about " + what, x.about(what), 0);
        due("1 fault", x.fault(0), 0);
        due("1 place", x.fault(1), -1);
        due("1 person", x.person(0, 0), -1);
        due("1 meet", x.meet(0, 0), -1);
        due("1 dawn", x.light(200, 0), 6);
        due("1 dusk", x.light(200, 1), 18);
        due("1 undo", x.undo(), false);
        due("1 back", x.back(0), -1);
        due("1 lies", x.lies(0), -1);
        due("1 NONE", HingeTown.NONE, -1);
    }

    private static void feed() {
        HingeTown x = new HingeTown();
        for (int i = 1; i <= 80; i++) due("2 feed " + i, x.feed(0, LOW, HIGH, -1, i), 20 * i);
        due("2 feed too much", x.feed(1, 2, 3, 4, 5), -1);
        due("2 nothing came", x.about(10), 1600);
        x.end(1581);
        due("2 feed over the end", x.feed(1, 2, 3, 4, 5), -1);
        due("2 nothing came either", x.about(10), 1581);
        x.end(1580);
        due("2 feed up to the end", x.feed(1, 2, 3, 4, 5), 1600);
        HingeTown y = new HingeTown();
        // "date 31;" and blanks: the highest byte comes first, and each number behind the one before.
        y.feed(0x64617465, 0x2033313b, 0x20202020, 0x0a0a0a0a, 0x20202020);
        due("2 order of bytes", y.town(), 0);
        due("2 order of bytes, date", y.about(4), 31);
        y.feed(0x20202020, 0x202020ff, 0, 0, 0);
        y.town();
        due("2 a high byte is no token", y.fault(0), 1);
        due("2 its place", y.fault(1), 7);
    }

    private static void end() {
        HingeTown x = new HingeTown();
        due("3 end of nothing", x.end(0), 0);
        due("3 beyond nothing", x.end(1), -1);
        x.feed(0x64617465, 0x2033313b, 0, 0, 0);
        due("3 below", x.end(-1), -1);
        due("3 lowest", x.end(LOW), -1);
        due("3 beyond", x.end(21), -1);
        due("3 all stays", x.about(10), 20);
        due("3 as it is", x.end(20), 20);
        due("3 shorter", x.end(8), 8);
        due("3 no longer", x.end(9), -1);
        due("3 bytes", x.about(10), 8);
        due("3 read", x.town(), 0);
        due("3 date", x.about(4), 31);
    }

    private static void town() {
        HingeTown x = new HingeTown();
        due("4 persons", Check.tell(x, STREET), 3);
        due("4 tape empty", x.about(10), 0);
        x.go(0, 1);
        x.hush(1);
        hours(x, 26);
        x.image(1);
        x.lit(0, 1, true);
        x.later(7);
        x.cut();
        int[] before = new int[13];
        for (int i = 0; i < 13; i++) before[i] = x.about(i);
        due("4 fault", Check.tell(x, "person dan at 3;date 5"), -1);
        due("4 tape empty behind a fault", x.about(10), 0);
        for (int i = 0; i < 13; i++) due("4 all stays " + i, x.about(i), before[i]);
        due("4 side stays", x.person(0, 1), 1);
        due("4 box stays", x.back(1), 99);
        x.image(1);
        due("4 told anew", Check.tell(x, STREET), 3);
        int[] anew = {3, 3, 3, 0, 98, 0, 0, 0, 0, 7, 0, 5, 0};
        for (int i = 0; i < 13; i++) due("4 about " + i, x.about(i), anew[i]);
        due("4 box empty", x.back(1), -1);
        due("4 side as told", x.person(0, 1), 0);
        due("4 suffered", x.person(2, 4), 0);
        due("4 together", x.meet(1, 4), 0);
        due("4 met", x.meet(1, 5), 0);
        due("4 nothing told", x.town(), 0);
        due("4 empty", x.about(0), 0);
        due("4 dusk not told any more", x.light(100, 1), 18);
        Check.tell(x, TWO);
        due("4 date not told", x.about(4), 0);
        due("4 wakeful not told any more", x.person(0, 5), 0);
    }

    private static void fault() {
        HingeTown x = new HingeTown();
        Check.tell(x, "person p at 10;");
        due("5 fault", x.fault(0), 4);
        due("5 place", x.fault(1), 12);
        due("5 other", x.fault(2), -1);
        due("5 below", x.fault(-1), -1);
        Check.tell(x, "date 3;");
        due("5 none", x.fault(0), 0);
        due("5 no place", x.fault(1), -1);
    }

    private static void person() {
        HingeTown x = told(STREET);
        int[][] all = {{0, 0, 0, 0, 0, 50, 0}, {2, 1, 0, 1, 0, 0, 0}, {3, 2, 0, 0, 0, 0, 0}};
        for (int p = 0; p < 3; p++) for (int w = 0; w < 7; w++) due("6 " + p + " " + w, x.person(p, w), all[p][w]);
        due("6 no such person", x.person(3, 0), -1);
        due("6 below", x.person(-1, 0), -1);
        due("6 other what", x.person(0, 7), -1);
        due("6 what below", x.person(0, -1), -1);
        hours(x, 2);
        // bob's noise of 6 at 2: to ann 2 houses off, to cat 1 house off.
        due("6 harm now", x.person(0, 6), 4);
        due("6 harm to cat", x.person(2, 6), 5);
        due("6 none to himself", x.person(1, 6), 0);
        x.hush(1);
        due("6 quiet", x.person(1, 2), 1);
        due("6 no harm by one who is quiet", x.person(2, 6), 0);
        x.hush(1);
        x.hour();
        due("6 suffered", x.person(2, 4), 5);
    }

    private static void meet() {
        HingeTown x = told(STREET);
        int[] second = {1, 2, 4, 3, 0, 0, 1};
        for (int w = 0; w < 7; w++) due("7 " + w, x.meet(1, w), second[w]);
        due("7 can't today", x.meet(0, 6), 0);
        due("7 other what", x.meet(0, 7), -1);
        due("7 what below", x.meet(0, -1), -1);
        due("7 no such meet", x.meet(3, 0), -1);
        due("7 below", x.meet(-1, 0), -1);
        hours(x, 23);
        due("7 together", x.meet(1, 4), 5);
        x.hour();
        due("7 met", x.meet(1, 5), 1);
        due("7 together anew", x.meet(1, 4), 0);
        HingeTown y = told(TWO + "meet b a hours 1 worth 9;");
        due("7 first as told", y.meet(0, 0), 1);
        due("7 second as told", y.meet(0, 1), 0);
    }

    private static void light() {
        HingeTown x = told("dawn date-5-hour-loud-far;dusk date+hour+loud+far;");
        due("8 dawn at least", x.light(0, 0), 0);
        due("8 dawn", x.light(9, 0), 4);
        due("8 dawn at most", x.light(364, 0), 11);
        due("8 dusk at least", x.light(3, 1), 12);
        due("8 dusk by date alone", x.light(17, 1), 17);
        due("8 dusk at most", x.light(24, 1), 23);
        due("8 no such date", x.light(365, 0), -1);
        due("8 below", x.light(-1, 0), -1);
        due("8 other what", x.light(0, 2), -1);
        due("8 what below", x.light(0, -1), -1);
        String[] values = {"7/2", "3", "0-7/2", "0", "7%4", "3", "5/0+3", "3", "5%0+4", "4", "1<2", "1", "2<1", "0",
            "2>1", "1", "2<2", "0", "2>2", "0", "3=3", "1", "3=4", "0", "2 and 3", "1", "2 and 0", "0", "0 or 5", "1", "0 or 0", "0",
            "not 7", "0", "not not 7", "1", "not not not 7", "0", "not 1+2", "0", "not 0<5", "0", "2+3*2", "8",
            "9-3-2", "4", "(1+2)*3", "9", "8/2/2", "2", "1 or 0 and 0", "1",
            "(5)", "5", "2<1+3", "1", "(0-7)%4+9", "6", "(0-9)/4+9", "7"};
        for (int i = 0; i < values.length; i += 2) {
            due("8 dawn " + values[i], told("dawn " + values[i] + ";").light(1, 0), Long.parseLong(values[i + 1]));
        }
        // 99980001 * 50 wraps to 704032754, of which 7 is left.
        due("8 ints wrap", told("dawn 9999*9999*50/9999/9999;").light(0, 0), 7);
        due("8 the least int", told("dawn 2048*1024*1024<0;").light(0, 0), 1);
        due("8 the least int by -1", told("dawn 2048*1024*1024/(0-1)<0;").light(0, 0), 1);
        due("8 its rest by -1", told("dawn 2048*1024*1024%(0-1)+5;").light(0, 0), 5);
    }

    private static void awake() {
        HingeTown x = told(STREET);
        int[] at98 = {2, 2, 2, 2, 6, 6, 5, 5, 5, 1, 1, 1, 1, 1, 1, 1, 5, 5, 6, 6, 6, 2, 2, 2};
        for (int h = 0; h < 24; h++) due("9 hour " + h, x.awake(98, h), at98[h]);
        due("9 dusk later", x.awake(100, 18), 5);
        due("9 hinge at dusk less 3", x.awake(100, 17), 1);
        due("9 hour 24", x.awake(98, 24), -1);
        due("9 hour below", x.awake(98, -1), -1);
        due("9 date beyond", x.awake(365, 0), -1);
        due("9 date below", x.awake(-1, 0), -1);
        HingeTown y = told("person a at 0 hinge;dawn 1;dusk 23;");
        for (int h = 0; h < 24; h++) due("9 round the clock " + h, y.awake(0, h), h <= 3 || h >= 21 ? 1 : 0);
        due("9 nobody", new HingeTown().awake(0, 12), 0);
    }

    private static void noise() {
        HingeTown x = told(STREET);
        due("10 bob", x.noise(1, 2), 6);
        due("10 none", x.noise(1, 3), 0);
        due("10 of another one", x.noise(0, 2), 0);
        x.hush(1);
        due("10 quiet changes nothing told", x.noise(1, 2), 6);
        due("10 hour beyond", x.noise(1, 24), -1);
        due("10 hour below", x.noise(1, -1), -1);
        due("10 person beyond", x.noise(3, 2), -1);
        due("10 person below", x.noise(-1, 2), -1);
    }

    private static void go() {
        HingeTown x = told(STREET);
        due("11 same", x.go(0, 0), -1);
        due("11 no such side", x.go(0, 3), -1);
        due("11 side below", x.go(0, -1), -1);
        due("11 no such person", x.go(3, 1), -1);
        due("11 person below", x.go(-1, 1), -1);
        due("11 no act", x.about(6), 0);
        due("11 from the day", x.go(0, 2), 0);
        due("11 from the hinge", x.go(0, 1), 2);
        due("11 from the night", x.go(0, 0), 1);
        due("11 acts", x.about(6), 3);
        due("11 side", x.person(0, 1), 0);
    }

    private static void hush() {
        HingeTown x = told(STREET);
        due("12 quiet", x.hush(2), 1);
        due("12 who", x.about(5), 4);
        due("12 no more", x.hush(2), 0);
        due("12 nobody", x.about(5), 0);
        due("12 no such person", x.hush(3), -1);
        due("12 below", x.hush(-1), -1);
        due("12 acts", x.about(6), 2);
    }

    private static void hour() {
        HingeTown x = told(STREET);
        int[] harm = {0, 0, 9, 0, 0, 1, 0, 0, 0, 0, 3, 0, 0, 0, 0, 0, 0, 0, 0, 0, 0, 0, 0, 0};
        harm[5] = 0; // cat's 3 at 5 is 3 houses from ann: nothing is left; bob is awake.
        harm[10] = 2 + 1; // ann's 4 at 10: bob 2, cat 3 houses off.
        for (int h = 0; h < 24; h++) {
            due("13 hour is", x.about(3), h);
            due("13 harm at " + h, x.hour(), harm[h]);
        }
        due("13 midnight", x.about(3), 0);
        due("13 date", x.about(4), 99);
        due("13 suffered ann", x.person(0, 4), 4);
        due("13 suffered bob", x.person(1, 4), 2);
        due("13 suffered cat", x.person(2, 4), 6);
        due("13 not met", x.meet(0, 5), 0);
        due("13 met", x.meet(2, 5), 1);
        hours(x, 24);
        due("13 met twice", x.meet(2, 5), 2);
        HingeTown y = told("date 364;" + TWO + "meet a b hours 1 worth 1;noise a at 7 loud 3;harm date*100+hour+loud*2-far;");
        hours(y, 7);
        due("13 harm 99 at most", y.hour(), 99);
        hours(y, 16);
        due("13 the year goes round", y.about(4), 0);
        hours(y, 7);
        due("13 harm by date, hour, loud, far", y.hour(), 13);
        HingeTown z = told(TWO + "noise a at 7 loud 3;harm 0-5;");
        hours(z, 7);
        due("13 harm 0 at least", z.hour(), 0);
        due("13 nobody", new HingeTown().hour(), 0);
    }

    private static void undo() {
        HingeTown x = told(STREET);
        due("14 none", x.undo(), false);
        x.go(0, 1);
        x.hush(1);
        hours(x, 24);
        due("14 met", x.meet(1, 5), 1);
        due("14 over midnight", x.undo(), true);
        due("14 hour", x.about(3), 23);
        due("14 date", x.about(4), 98);
        due("14 not met", x.meet(1, 5), 0);
        due("14 together", x.meet(1, 4), 5);
        for (int i = 0; i < 23; i++) due("14 hour back", x.undo(), true);
        due("14 suffered", x.person(2, 4), 0);
        due("14 quiet", x.about(5), 2);
        x.undo();
        due("14 not quiet", x.about(5), 0);
        x.undo();
        due("14 side", x.person(0, 1), 0);
        due("14 no more", x.undo(), false);
        HingeTown y = told(STREET);
        hours(y, 45);
        due("14 forty kept", y.about(6), 40);
        for (int i = 0; i < 40; i++) due("14 of forty", y.undo(), true);
        due("14 the oldest went", y.undo(), false);
        due("14 five hours stay", y.about(3), 5);
        due("14 redoable", y.about(7), 40);
    }

    private static void redo() {
        HingeTown x = told(STREET);
        due("15 none", x.redo(), false);
        x.go(0, 1);
        due("15 nothing taken back", x.redo(), false);
        x.hush(2);
        hours(x, 3);
        for (int i = 0; i < 5; i++) x.undo();
        due("15 side again", x.redo(), true);
        due("15 side", x.person(0, 1), 1);
        due("15 one to undo", x.about(6), 1);
        due("15 four to redo", x.about(7), 4);
        due("15 quiet not yet", x.about(5), 0);
        x.redo();
        due("15 quiet", x.about(5), 4);
        for (int i = 0; i < 3; i++) due("15 hours", x.redo(), true);
        due("15 hour", x.about(3), 3);
        due("15 suffered", x.person(2, 4), 5);
        due("15 no more", x.redo(), false);
        x.undo();
        x.undo();
        due("15 two", x.about(7), 2);
        x.go(0, 1);
        due("15 what is no act keeps them", x.about(7), 2);
        x.image(0);
        due("15 an image is no act", x.about(7), 2);
        x.go(0, 2);
        due("15 till another act", x.redo(), false);
        due("15 none left", x.about(7), 0);
    }

    private static void common() {
        HingeTown x = told(STREET);
        due("16 day and night", x.common(0, 1, 98), 0);
        due("16 night and hinge", x.common(1, 2, 98), 5);
        due("16 the other way", x.common(2, 1, 98), 5);
        due("16 one twice", x.common(2, 2, 98), 10);
        due("16 day twice", x.common(0, 0, 100), 14);
        due("16 date beyond", x.common(0, 1, 365), -1);
        due("16 date below", x.common(0, 1, -1), -1);
        due("16 person beyond", x.common(3, 1, 0), -1);
        due("16 other beyond", x.common(1, 3, 0), -1);
        due("16 other below", x.common(1, LOW, 0), -1);
        due("16 hinges that touch", told("person a at 0 hinge;dawn 11;dusk 12;").common(0, 0, 0), 6);
    }

    private static void can() {
        HingeTown x = told(STREET);
        due("17 can", x.can(98), 6);
        x.go(1, 2);
        due("17 all can", x.can(98), 7);
        due("17 beyond", x.can(365), -1);
        due("17 below", x.can(-1), -1);
        due("17 none told", told(TWO).can(3), 0);
        HingeTown y = told("person a at 0;person b at 0;meet a b hours 12 worth 1;dusk 18-(date=7);");
        due("17 just enough", y.can(6), 1);
        due("17 one too few", y.can(7), 0);
    }

    private static void never() {
        HingeTown x = told("person a at 0;person b at 0;person c at 0 night;meet a b hours 12 worth 1;meet a c hours 1 worth 1;"
            + "meet b c hours 24 worth 2;dusk 18-(date=7);date 7;");
        due("18 today", x.never(0), 7);
        due("18 never at all", x.never(1), 7);
        due("18 tomorrow", told("person a at 0;person b at 0;meet a b hours 12 worth 1;dusk 18-(date=8);date 7;").never(0), 8);
        due("18 yesterday", told("person a at 0;person b at 0;meet a b hours 12 worth 1;dusk 18-(date=6);date 7;").never(0), 6);
        hours(x, 24);
        due("18 round the year", x.never(0), 7);
        due("18 today again", x.never(1), 8);
        x.go(2, 0);
        due("18 by what is now", x.never(1), -1);
        due("18 beyond", x.never(3), -1);
        due("18 below", x.never(-1), -1);
    }

    private static void dates() {
        HingeTown x = told("person a at 0;person b at 0;meet a b hours 12 worth 1;dusk 18-(date>99);");
        due("19 dates", x.dates(0), 100);
        x.go(0, 1);
        due("19 none", x.dates(0), 0);
        x.go(1, 1);
        due("19 nights grow", x.dates(0), 365);
        due("19 beyond", x.dates(1), -1);
        due("19 below", x.dates(-1), -1);
    }

    private static void harmed() {
        HingeTown x = told(STREET);
        due("20 ann", x.harmed(0, 98), 4);
        due("20 bob", x.harmed(1, 98), 2);
        due("20 cat", x.harmed(2, 98), 6);
        x.hush(0);
        due("20 cat, if ann is quiet", x.harmed(2, 98), 5);
        due("20 person beyond", x.harmed(3, 98), -1);
        due("20 person below", x.harmed(-1, 98), -1);
        due("20 date beyond", x.harmed(0, 365), -1);
        due("20 date below", x.harmed(0, -1), -1);
        HingeTown y = told("person a at 0;person b at 9;noise b at 7 loud 20;harm loud-far;");
        due("20 who is awake is not harmed", y.harmed(0, 0), 0);
        y.go(0, 1);
        due("20 far", y.harmed(0, 0), 11);
        y.go(1, 1);
        due("20 who sleeps makes none", y.harmed(0, 0), 0);
    }

    private static void bliss() {
        HingeTown x = told(STREET);
        due("21 bliss", x.bliss(98), -7);
        x.hush(1);
        due("21 bob quiet", x.bliss(98), 2);
        due("21 beyond", x.bliss(365), -1000000);
        due("21 below", x.bliss(-1), -1000000);
        due("21 nobody", new HingeTown().bliss(0), 0);
    }

    private static void lying(String what, HingeTown x, int... sides) {
        due(what + ", how many", x.about(12), sides.length);
        for (int i = 0; i < sides.length; i++) due(what + ", " + i, x.lies(i), sides[i]);
        due(what + ", behind the last", x.lies(sides.length), -1);
    }

    private static void cut() {
        HingeTown x = told(STREET);
        due("22 most", x.cut(), 10);
        lying("22 all by day", x, 0, 0, 0);
        due("22 nothing is done", x.person(1, 1), 1);
        due("22 no act", x.about(6), 0);
        HingeTown y = told(TWO + "meet a b hours 11 worth 5;");
        due("22 one change of two", y.cut(), 5);
        // Both by day or both by night: one change each; the first one by persons is day, day.
        lying("22 the first", y, 0, 0);
        y.go(0, 1);
        y.cut();
        lying("22 no change is fewest", y, 1, 1);
        HingeTown z = told("person a at 0 hinge;person b at 0 night;meet a b hours 5 worth 5;");
        z.cut();
        lying("22 hinge, too", z, 2, 1);
        HingeTown n = new HingeTown();
        due("22 nobody", n.cut(), 0);
        lying("22 nobody lies there", n);
        HingeTown w = told("person a at 0;person b at 0;noise a at 12 loud 9;noise b at 0 loud 9;");
        due("22 no meets", w.cut(), 0);
        lying("22 as they are", w, 0, 0);
    }

    /** As many of each sort as there can be: persons 0 .. 6 in a ring, and three across. */
    private static void full() {
        String text = "";
        for (int p = 0; p < 7; p++) text += "person " + (char) ('a' + p) + " at " + p + (p % 2 == 0 ? ";" : " night;");
        for (int p = 0; p < 7; p++) text += "meet " + (char) ('a' + p) + " " + (char) ('a' + (p + 1) % 7) + " hours 12 worth 10;";
        for (int p = 0; p < 3; p++) text += "meet " + (char) ('a' + p) + " " + (char) ('d' + p) + " hours 12 worth 1;";
        for (int h = 0; h < 8; h++) text += "noise g at " + h + " loud 9;";
        HingeTown x = told(text);
        due("full meets", x.about(1), 10);
        due("full noises", x.about(2), 8);
        due("full can", x.can(0), 1 << 6);
        // g is awake at 6 and 7; b, d, f sleep 5, 3 and 1 houses off.
        due("full harmed", x.harmed(1, 0) + x.harmed(3, 0) + x.harmed(5, 0), 8 + 12 + 16);
        due("full harm by g", x.loudest(0, 1), 36);
        due("full bliss", x.bliss(0), 10 - 36);
        due("full cut", x.cut(), 73);
        lying("full cut", x, 0, 0, 0, 0, 0, 0, 0);
        due("full rest", x.rest(), 1);
        due("full lonely", x.lonely(0), 1 << 1 | 1 << 2 | 1 << 3 | 1 << 4 | 1 << 5);
        due("full fits", x.fits(0), 128);
        due("full harm of hour 0", x.hour(), 0);
        hours(x, 5);
        due("full harm of hour 6", x.hour(), 18);
        due("full together", x.meet(6, 4), 1);
        due("full not together", x.meet(9, 4), 0);
        hours(x, 17);
        due("full met", x.meet(6, 5), 1);
        due("full wake", x.wake(0, 6, 1), 1 << 0 | 1 << 6);
    }

    private static void joy() {
        HingeTown x = told(STREET);
        due("23 ann", x.joy(0, 98), -2);
        due("23 bob", x.joy(1, 98), 1);
        due("23 cat", x.joy(2, 98), -1);
        due("23 person beyond", x.joy(3, 98), -1000000);
        due("23 person below", x.joy(-1, 98), -1000000);
        due("23 date beyond", x.joy(0, 365), -1000000);
        due("23 date below", x.joy(0, -1), -1000000);
    }

    private static void lonely() {
        HingeTown x = told(STREET + "person dan at 4;");
        due("24 without any", x.lonely(98), 8);
        due("24 the first meet", told("person a at 0;person b at 0;meet a b hours 1 worth 1;").lonely(0), 0);
        x.go(2, 0);
        due("24 bob, too", x.lonely(98), 10);
        due("24 beyond", x.lonely(365), -1);
        due("24 below", x.lonely(-1), -1);
        due("24 nobody", new HingeTown().lonely(5), 0);
    }

    private static void hinges() {
        HingeTown x = told(STREET);
        due("25 never all", x.hinges(98), 0);
        x.go(1, 2);
        due("25 at dawn and dusk", x.hinges(98), 1 << 6 | 1 << 7 | 1 << 8 | 1 << 16 | 1 << 17);
        due("25 later dusk", x.hinges(100), 1 << 6 | 1 << 7 | 1 << 8 | 1 << 18 | 1 << 19);
        due("25 beyond", x.hinges(365), -1);
        due("25 below", x.hinges(-1), -1);
        due("25 nobody", new HingeTown().hinges(364), 16777215);
    }

    private static void loudest() {
        HingeTown x = told(STREET);
        due("26 bob", x.loudest(98, 0), 1);
        due("26 how much", x.loudest(98, 1), 9);
        x.hush(1);
        due("26 then ann", x.loudest(98, 0), 0);
        due("26 how much then", x.loudest(98, 1), 3);
        x.hush(0);
        due("26 then cat", x.loudest(98, 0), 2);
        due("26 nothing less", x.loudest(98, 1), 0);
        x.hush(2);
        due("26 all quiet", x.loudest(98, 0), -1);
        due("26 all quiet, how much", x.loudest(98, 1), -1);
        x.hush(2);
        due("26 other what", x.loudest(98, 2), -1);
        due("26 what below", x.loudest(98, -1), -1);
        due("26 date beyond", x.loudest(365, 0), -1);
        due("26 date below", x.loudest(-1, 1), -1);
        due("26 nobody", new HingeTown().loudest(0, 0), -1);
        due("26 of like ones the first", told(TWO).loudest(0, 0), 0);
    }

    private static void rest() {
        HingeTown x = told(STREET);
        due("27 rounds", x.rest(), 1);
        lying("27 all by night", x, 1, 1, 1);
        due("27 nothing is done", x.person(0, 1), 0);
        HingeTown y = told(TWO + "meet a b hours 1 worth 5;");
        due("27 a goes to b", y.rest(), 1);
        lying("27 night and hinge please a alike: the first", y, 1, 1);
        HingeTown z = told("person a at 1 night;person b at 1;meet b a hours 12 worth 5;");
        due("27 by day", z.rest(), 1);
        lying("27 by day", z, 0, 0);
        HingeTown h = told("person a at 1 hinge;person b at 1;meet b a hours 2 worth 5;");
        due("27 at rest already", h.rest(), 0);
        lying("27 his own of like ones", h, 2, 0);
        HingeTown slow = told("person a at 0;person b at 1 night;person c at 2;person d at 3;person e at 4 hinge;person f at 5;"
            + "meet c d hours 6 worth 10;meet b d hours 6 worth 19;meet a b hours 10 worth 5;meet c f hours 6 worth 3;noise e at 3 loud 3;"
            + "noise c at 19 loud 10;noise b at 13 loud 2;noise c at 7 loud 19;noise e at 20 loud 18;noise f at 2 loud 4;"
            + "noise c at 5 loud 15;noise d at 12 loud 4;harm loud*(far%4);");
        due("27 five rounds", slow.rest(), 5);
        HingeTown never = told("person a at 0;person b at 1 hinge;person c at 2;person d at 3 hinge;meet b d hours 6 worth 10;"
            + "meet c b hours 10 worth 12;noise d at 4 loud 12;noise d at 18 loud 6;noise c at 17 loud 3;noise d at 5 loud 17;"
            + "noise d at 19 loud 2;noise a at 11 loud 4;noise c at 21 loud 8;noise d at 10 loud 19;harm loud*(far%2);");
        never.cut();
        due("27 something lies there", never.about(12), 4);
        due("27 no rest", never.rest(), -1);
        lying("27 nothing behind NONE", never);
        due("27 nobody", new HingeTown().rest(), 0);
    }

    private static void shop() {
        HingeTown x = told(STREET);
        due("28 from", x.shop(0), 5);
        due("28 how many", x.shop(1), 2);
        due("28 other what", x.shop(2), -1);
        due("28 what below", x.shop(-1), -1);
        due("28 nobody", new HingeTown().shop(1), -1);
        x.go(1, 0);
        due("28 all at one hour", x.shop(1), 1);
        due("28 the earliest", x.shop(0), 6);
        x.go(0, 1);
        x.go(1, 1);
        x.go(2, 1);
        due("28 by night from", x.shop(0), 0);
        HingeTown y = told("person a at 0;person b at 0 night;dawn 0;dusk 23;");
        due("28 none over midnight", y.shop(0), 22);
        due("28 two", y.shop(1), 2);
    }

    private static void post() {
        HingeTown x = told(STREET);
        due("29 by cat's hands", x.post(0, 1), 19);
        due("29 back", x.post(1, 0), 7);
        due("29 to himself", x.post(0, 0), 0);
        due("29 person beyond", x.post(3, 0), -1);
        due("29 other beyond", x.post(0, 3), -1);
        due("29 below", x.post(-1, 0), -1);
        hours(x, 19);
        due("29 over midnight", x.post(1, 2), 1);
        due("29 the next day", x.post(0, 1), 5 + 19);
        HingeTown y = told("person a at 0;person b at 0;person c at 0;meet a b hours 24 worth 1;meet c b hours 24 worth 1;");
        hours(y, 6);
        due("29 and so on at the same hour", y.post(0, 2), 1);
        HingeTown z = told(TWO + "meet a b hours 1 worth 1;");
        due("29 not within 240", z.post(0, 1), -1);
        HingeTown chain = told("person a at 0;person b at 0;person c at 0;person d at 0;"
            + "meet c d hours 1 worth 1;meet b c hours 1 worth 1;meet a b hours 1 worth 1;dawn 0;");
        due("29 from hand to hand", chain.post(0, 3), 1);
        due("29 no meet", told("person a at 0;person b at 0;").post(0, 1), -1);
        HingeTown d = told("person a at 0;person b at 0;meet a b hours 1 worth 1;dawn (date=0)*3;date 364;");
        hours(d, 23);
        due("29 at the last hour by day", d.post(0, 1), 5);
    }

    private static void spread() {
        HingeTown x = told(STREET);
        due("30 at first", x.spread(0, 0), 1);
        due("30 six", x.spread(0, 6), 1);
        due("30 seven", x.spread(0, 7), 5);
        due("30 eighteen", x.spread(0, 18), 5);
        due("30 nineteen", x.spread(0, 19), 7);
        due("30 the most", x.spread(0, 240), 7);
        due("30 at this hour", told("person a at 0;person b at 0;meet a b hours 1 worth 1;dawn 0;").spread(1, 1), 3);
        due("30 too many", x.spread(0, 241), -1);
        due("30 below", x.spread(0, -1), -1);
        due("30 person beyond", x.spread(3, 1), -1);
        due("30 person below", x.spread(-1, 1), -1);
    }

    private static void wake() {
        HingeTown x = told(STREET);
        due("31 ann", x.wake(1, 0, 0), 1);
        due("31 ann as bits", x.wake(1, 0, 1), 1);
        due("31 both", x.wake(0, 2, 0), 2);
        due("31 both as bits", x.wake(0, 2, 1), 5);
        due("31 one", x.wake(0, 0, 0), -1);
        due("31 other what", x.wake(0, 1, 2), -1);
        due("31 what below", x.wake(0, 1, -1), -1);
        due("31 person beyond", x.wake(3, 1, 0), -1);
        due("31 other below", x.wake(0, -1, 0), -1);
        hours(x, 4);
        due("31 nobody has to be", x.wake(1, 2, 0), 0);
        due("31 nobody as bits", x.wake(1, 2, 1), 0);
        hours(x, 1);
        due("31 at the last hour of the night", x.wake(0, 2, 1), 1);
        due("31 never", told(TWO).wake(0, 1, 0), -1);
        due("31 everybody", told("person a at 0;person b at 0;meet a b hours 1 worth 1;").wake(0, 1, 1), 3);
        HingeTown y = told("person a at 0 night;person b at 0;person c at 0;person d at 0 night;person e at 0;"
            + "meet a c hours 1 worth 1;meet c d hours 1 worth 1;meet a b hours 1 worth 1;meet b d hours 1 worth 1;meet d e hours 1 worth 1;");
        due("31 of like ones the least", y.wake(0, 3, 1), 2);
        HingeTown z = told("person a at 0;person b at 0;person c at 0;person d at 0 night;person e at 0 night;meet d a hours 1 worth 1;"
            + "meet a b hours 1 worth 1;meet b e hours 1 worth 1;meet d c hours 1 worth 1;meet c e hours 1 worth 1;");
        due("31 fewest before least", z.wake(3, 4, 1), 4);
        due("31 the last one, too", y.wake(0, 4, 1), 2 | 16);
    }

    private static void odds() {
        String two = TWO + "wakeful a 50;wakeful b 20;";
        HingeTown x = told(two + "meet a b hours 12 worth 1;");
        due("32 one or the other", x.odds(0, 0, 0), 3);
        due("32 of", x.odds(0, 0, 1), 5);
        HingeTown y = told(two + "meet a b hours 13 worth 1;");
        due("32 both", y.odds(0, 0, 0), 1);
        due("32 both of", y.odds(0, 0, 1), 10);
        HingeTown z = told(TWO + "meet a b hours 1 worth 1;");
        due("32 none", z.odds(0, 9, 0), 0);
        due("32 none of", z.odds(0, 9, 1), 1);
        z.go(0, 1);
        due("32 sure", z.odds(0, 9, 0), 1);
        due("32 sure of", z.odds(0, 9, 1), 1);
        due("32 other part", x.odds(0, 0, 2), -1);
        due("32 part below", x.odds(0, 0, -1), -1);
        due("32 meet beyond", x.odds(1, 0, 0), -1);
        due("32 meet below", x.odds(-1, 0, 0), -1);
        due("32 date beyond", x.odds(0, 365, 0), -1);
        due("32 date below", x.odds(0, -1, 0), -1);
        HingeTown w = told(TWO + "wakeful a 33;wakeful b 77;meet a b hours 24 worth 1;");
        due("32 exact", w.odds(0, 0, 0), 2541);
        due("32 exact of", w.odds(0, 0, 1), 10000);
        HingeTown v = told(TWO + "wakeful a 100;wakeful b 0;meet a b hours 11 worth 1;dusk 18-(date=3)*6;");
        due("32 by the date", v.odds(0, 3, 0), 1);
    }

    private static void lies() {
        HingeTown x = told(STREET);
        due("33 nothing", x.lies(0), -1);
        x.cut();
        x.rest();
        lying("33 the latest", x, 1, 1, 1);
        due("33 below", x.lies(-1), -1);
        due("33 lowest", x.lies(LOW), -1);
        due("33 highest", x.lies(HIGH), -1);
        x.hour();
        x.undo();
        lying("33 acts leave it", x, 1, 1, 1);
    }

    private static void lit() {
        HingeTown x = told(STREET);
        due("34 house beyond", x.lit(10, 0, true), -1);
        due("34 house below", x.lit(-1, 0, true), -1);
        due("34 hour beyond", x.lit(0, 24, true), -1);
        due("34 hour below", x.lit(0, -1, true), -1);
        due("34 none yet", x.about(8), 0);
        for (int i = 0; i < 30; i++) due("34 number", x.lit(9, i % 24, false), i);
        due("34 thirty", x.lit(9, 0, false), -1);
        due("34 still thirty", x.about(8), 30);
        x.untell(3);
        due("34 untold ones count", x.lit(9, 0, false), -1);
        due("34 all fit", x.fits(0), 8);
    }

    private static void untell() {
        HingeTown x = told(STREET);
        due("35 none", x.untell(0), false);
        x.lit(0, 12, true);
        due("35 below", x.untell(-1), false);
        due("35 beyond", x.untell(1), false);
        due("35 before", x.fits(0), 4);
        due("35 untold", x.untell(0), true);
        due("35 at the same time", x.fits(0), 8);
        due("35 already", x.untell(0), false);
        x.lit(0, 12, true);
        Check.tell(x, STREET);
        due("35 gone with the town", x.untell(1), false);
    }

    private static void later() {
        HingeTown x = new HingeTown();
        due("36 not at all", x.later(0), 0);
        due("36 below", x.later(-1), -1);
        due("36 too much", x.later(1001), -1);
        due("36 highest", x.later(HIGH), -1);
        for (int i = 1; i < 100; i++) due("36 on", x.later(1000), 1000 * i);
        due("36 nearly", x.later(999), 99999);
        due("36 above", x.later(2), -1);
        due("36 stays", x.about(9), 99999);
        due("36 the last", x.later(1), 100000);
        due("36 no later", x.later(1), -1);
        due("36 as late", x.later(0), 100000);
    }

    private static void fits() {
        HingeTown x = told("person a at 1;person b at 1 hinge;person c at 2;");
        due("37 all", x.fits(0), 8);
        x.lit(1, 12, true);
        due("37 one of two by day", x.fits(0), 6);
        x.later(5);
        x.lit(1, 0, false);
        due("37 none by night", x.fits(5), 2);
        due("37 known before", x.fits(4), 6);
        due("37 known before all", x.fits(-1), 8);
        x.later(5);
        x.untell(0);
        due("37 later on the same", x.fits(10), 2);
        x.untell(1);
        due("37 untold", x.fits(10), 8);
        due("37 before it was untold", x.fits(9), 2);
        due("37 at last", x.fits(HIGH), 8);
        due("37 at first", x.fits(LOW), 8);
        x.lit(3, 0, true);
        due("37 nobody lives there", x.fits(10), 0);
        HingeTown y = new HingeTown();
        y.lit(0, 0, false);
        due("37 without persons", y.fits(0), 1);
        y.lit(0, 0, true);
        due("37 against it", y.fits(0), 0);
    }

    private static void sure() {
        HingeTown x = told("person a at 1;person b at 1 hinge;person c at 2;");
        due("38 not the same", x.sure(0, 0), -2);
        x.lit(2, 23, true);
        due("38 by night", x.sure(2, 0), 1);
        x.lit(1, 23, false);
        due("38 by day", x.sure(0, 0), 0);
        due("38 known before", x.sure(0, -1), -2);
        due("38 beyond", x.sure(3, 0), -1);
        due("38 below", x.sure(-1, 0), -1);
        x.lit(1, 12, false);
        due("38 none fits", x.sure(0, 0), -1);
    }

    private static void ask() {
        HingeTown x = told("person a at 1;person b at 1;person c at 2;person d at 3;");
        due("39 first hour of like ones", x.ask(2, 0, 0), 0);
        due("39 half", x.ask(2, 1, 0), 8);
        due("39 three of four", x.ask(1, 1, 0), 12);
        due("39 nobody there", x.ask(0, 1, 0), 16);
        x.lit(1, 0, true);
        // a, b are not both by day: by day one of the other three is dark, by night none is.
        due("39 by day", x.ask(1, 0, 0), 6);
        due("39 by day leaves", x.ask(1, 1, 0), 8);
        HingeTown y = told("person a at 1;person b at 1;dawn 1;");
        y.lit(1, 0, true);
        due("39 the first hour by day", y.ask(1, 0, 0), 1);
        due("39 known before", x.ask(1, 0, -1), 0);
        due("39 house beyond", x.ask(10, 0, 0), -1);
        due("39 house below", x.ask(-1, 0, 0), -1);
        due("39 other what", x.ask(1, 2, 0), -1);
        due("39 what below", x.ask(1, -1, 0), -1);
        x.lit(9, 0, true);
        due("39 none fits", x.ask(1, 0, 0), -1);
        due("39 none fits, how many", x.ask(1, 1, 0), -1);
    }

    private static void image() {
        HingeTown x = told(STREET);
        due("40 beyond", x.image(3), -1);
        due("40 below", x.image(-1), -1);
        due("40 date", x.image(2), 98);
        due("40 no act", x.about(6), 0);
        hours(x, 24);
        due("40 written over", x.image(2), 99);
        due("40 another box", x.back(0), -1);
        due("40 first box", x.image(0), 99);
        due("40 first box back", x.back(0), 99);
    }

    private static void back() {
        HingeTown x = told(STREET);
        hours(x, 30);
        x.go(0, 2);
        x.hush(2);
        x.image(1);
        int[] was = {x.person(2, 4), x.meet(1, 4), x.meet(1, 5)};
        x.lit(0, 0, true);
        x.cut();
        x.go(0, 1);
        x.hush(0);
        hours(x, 20);
        x.undo();
        due("41 nothing kept", x.back(0), -1);
        due("41 beyond", x.back(3), -1);
        due("41 below", x.back(-1), -1);
        due("41 acts stay so far", x.about(7), 1);
        due("41 date", x.back(1), 99);
        due("41 side", x.person(0, 1), 2);
        due("41 quiet", x.about(5), 4);
        due("41 hour", x.about(3), 6);
        due("41 suffered", x.person(2, 4), was[0]);
        due("41 together", x.meet(1, 4), was[1]);
        due("41 met", x.meet(1, 5), was[2]);
        due("41 no acts", x.about(6), 0);
        due("41 none taken back", x.about(7), 0);
        due("41 lights stay", x.about(8), 1);
        due("41 what lies there stays", x.about(12), 3);
        due("41 no undo", x.undo(), false);
        hours(x, 3);
        due("41 again", x.back(1), 99);
        due("41 hour again", x.about(3), 6);
    }

    private static void about() {
        HingeTown x = told(STREET);
        x.feed(0, 0, 0, 0, 0);
        x.hush(0);
        x.hush(2);
        x.hour();
        x.hour();
        x.undo();
        x.lit(0, 0, true);
        x.later(9);
        x.cut();
        int[] all = {3, 3, 3, 1, 98, 5, 3, 1, 1, 9, 20, 5, 3};
        for (int i = 0; i < all.length; i++) due("42 " + i, x.about(i), all[i]);
        due("42 other", x.about(13), -1);
        due("42 below", x.about(-1), -1);
        due("42 lowest", x.about(LOW), -1);
        due("42 units", told("dawn ((1))+date;dusk 5;harm not not loud;").about(11), 6);
    }

    private static void readsAndWrites() {
        newObject();
        feed();
        end();
        town();
        fault();
        person();
        meet();
        light();
        awake();
        noise();
        go();
        hush();
        hour();
        undo();
        redo();
    }

    private static void looks() {
        common();
        can();
        never();
        dates();
        harmed();
        bliss();
        cut();
        joy();
        lonely();
        hinges();
        loudest();
        rest();
        shop();
        post();
        spread();
        wake();
        odds();
        lies();
    }

    private static void lightsAndImages() {
        lit();
        untell();
        later();
        fits();
        sure();
        ask();
        image();
        back();
        about();
        full();
    }

    public static void main(String[] args) {
        readsAndWrites();
        looks();
        lightsAndImages();
        check.end("PromiseTests");
    }
}
