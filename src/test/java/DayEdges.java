/** Days, harm, hours and acts, sentence by sentence: the terms of ==== 2, promises 6 to 15. */
final class DayEdges {
    private static final int NONE = Edges.NONE;
    private static final int LOW = Edges.LOW;
    private static final int HIGH = Edges.HIGH;
    /** 2048 * 1024 * 1024 is one more than the greatest int. */
    private static final String LEAST = "2048*1024*1024";

    private DayEdges() { }

    private static void sentence(String words, Runnable test) {
        Edges.sentence(words, test);
    }

    private static void due(long got, long want) {
        Edges.due(got, want);
    }

    private static void due(boolean got, boolean want) {
        Edges.due(got, want);
    }

    private static HingeTown told(String text) {
        return Check.told(text);
    }

    private static void hours(HingeTown x, int n) {
        Edges.hours(x, n);
    }

    private static int dawn(String formula) {
        return told("dawn " + formula + ";").light(0, 0);
    }

    private static int dusk(String formula) {
        return told("dusk " + formula + ";").light(0, 1);
    }

    /** Values of formulas that answer 0 .. 11, each with its answer behind it. */
    private static void values(String... formulasAndValues) {
        for (int i = 0; i < formulasAndValues.length; i += 2) due(dawn(formulasAndValues[i]), Integer.parseInt(formulasAndValues[i + 1]));
    }

    private static void suns() {
        Edges.part("==== 2.");
        sentence("DAWN of a date: what comes of dawn (6, if it is not told), 0 at least, 11 at most;", () -> {
            HingeTown x = told("dusk 20;");
            for (int date : new int[] {0, 1, 200, 364}) due(x.light(date, 0), 6);
            values("0-1", "0", "0", "0", "1", "1", "11", "11", "12", "11", "9999", "11", LEAST, "0", LEAST + "-1", "11");
        });
        sentence("DUSK: of dusk (18), 12 at least, 23 at most;", () -> {
            HingeTown x = told("dawn 3;");
            for (int date : new int[] {0, 1, 200, 364}) due(x.light(date, 1), 18);
            String[] formulas = {"0-1", "0", "11", "12", "13", "22", "23", "24", "9999", LEAST, LEAST + "-1"};
            int[] dusks = {12, 12, 12, 12, 13, 22, 23, 23, 23, 12, 23};
            for (int i = 0; i < dusks.length; i++) due(dusk(formulas[i]), dusks[i]);
        });
        sentence("by date alone (others 0;", () -> {
            HingeTown x = told("person a at 0;person b at 9 night;noise a at 7 loud 20;dawn date+hour+loud+far;dusk date+hour*5+loud*5+far*5;date 3;");
            hours(x, 7);
            for (int date = 0; date < 24; date++) {
                due(x.light(date, 0), Math.min(date, 11));
                due(x.light(date, 1), Math.max(12, Math.min(date, 23)));
            }
            due(x.light(364, 0), 11);
            due(x.light(364, 1), 23);
        });
        sentence("ints, wrapping;", () -> values(LEAST + "-1+1<0", "1", "0-" + LEAST + "<0", "1", LEAST + "-1>0", "1", "8192*8192*64+5", "5",
            "8192*8192*32<0", "1", "8192*8192*32*3<0", "1", "9999*9999*50/9999/9999", "7"));
        sentence("/ cut, % its rest,", () -> values("7/2", "3", "(0-7)/2+9", "6", "7/(0-2)+9", "6", "(0-7)/(0-2)", "3", "1/2", "0", "(0-1)/2+5", "5",
            "7%2", "1", "(0-7)%2+9", "8", "7%(0-2)", "1", "(0-7)%(0-2)+9", "8", "6%3", "0", LEAST + "/(0-1)<0", "1", LEAST + "%(0-1)+4", "4"));
        sentence("both by 0: 0;", () -> {
            values("5/0+3", "3", "5%0+3", "3", "0/0+3", "3", "0%0+3", "3", LEAST + "/0+3", "3", LEAST + "%0+3", "3", "9/(4-4)+1", "1");
            HingeTown x = told("dawn date/date+date%date*5;");
            due(x.light(0, 0), 0);
            due(x.light(1, 0), 1);
            due(told("person a at 3;person b at 3 night;person c at 5 night;noise a at 9 loud 8;harm loud/far;").harmed(1, 0), 0);
            due(told("person a at 3;person b at 3 night;person c at 5 night;noise a at 9 loud 8;harm loud/far;").harmed(2, 0), 4);
        });
        sentence("relations, and, or, not are 1 or 0, of what is not 0).", () -> {
            values("5<6", "1", "6<6", "0", "7<6", "0", "5>6", "0", "6>6", "0",
            "7>6", "1", "5=6", "0", "6=6", "1", "7=6", "0", LEAST + "<1", "1", LEAST + ">1", "0", "1 and 2", "1", "(0-1) and (0-1)", "1", "7 and 0", "0",
            "0 and 7", "0", "0 and 0", "0", "1 or 2", "1", "0 or (0-2)", "1", "(0-2) or 0", "1", "0 or 0", "0", "not 0", "1", "not 5", "0", "not (0-5)", "0",
            "not " + LEAST, "0", "not not 9", "1", LEAST + " and " + LEAST, "1", "(3<4)+(4>3)+(4=4)+(2 and 2)+(2 or 2)+(not 0)", "6");
            for (int nots = 1; nots <= 7; nots++) values("not ".repeat(nots) + "5", String.valueOf(1 - nots % 2), "not ".repeat(nots) + "0", String.valueOf(nots % 2));
        });
    }

    private static int clockwise(int a, int b) {
        int apart = Math.abs(a - b);
        return Math.min(apart, 24 - apart);
    }

    private static boolean wakes(int side, int dawn, int dusk, int hour) {
        if (side == 2) return clockwise(hour, dawn) <= 2 || clockwise(hour, dusk) <= 2;
        return (hour >= dawn && hour < dusk) == (side == 0);
    }

    /** All that DAWN and DUSK can be, at all hours. */
    private static void allDays(int side) {
        for (int dawn = 0; dawn < 12; dawn++) {
            for (int dusk = 12; dusk < 24; dusk++) {
                HingeTown x = told("person a at 0" + new String[] {"", " night", " hinge"}[side] + ";dawn " + dawn + ";dusk " + dusk + ";");
                for (int hour = 0; hour < 24; hour++) due(x.awake(0, hour), wakes(side, dawn, dusk, hour) ? 1 : 0);
            }
        }
    }

    private static void awakeAt(String person, int... hours) {
        HingeTown x = told(person);
        int all = 0;
        for (int hour : hours) all |= 1 << hour;
        for (int hour = 0; hour < 24; hour++) due(x.awake(0, hour), all >> hour & 1);
    }

    private static void sides() {
        sentence("At an HOUR of a date one on the side of the DAY (0) is AWAKE from DAWN on till DUSK (at DUSK no more),", () -> {
            allDays(0);
            awakeAt("person a at 0;", 6, 7, 8, 9, 10, 11, 12, 13, 14, 15, 16, 17);
            awakeAt("person a at 0;dawn 11;dusk 12;", 11);
            awakeAt("person a at 0;dawn 0;dusk 12;", 0, 1, 2, 3, 4, 5, 6, 7, 8, 9, 10, 11);
        });
        sentence("one of the NIGHT (1) at all others,", () -> {
            allDays(1);
            awakeAt("person a at 0 night;", 0, 1, 2, 3, 4, 5, 18, 19, 20, 21, 22, 23);
            awakeAt("person a at 0 night;dawn 0;dusk 23;", 23);
        });
        sentence("one on the HINGE (2) at HOURS that are 2 at most from DAWN, or from DUSK (round the clock).", () -> {
            allDays(2);
            awakeAt("person a at 0 hinge;", 4, 5, 6, 7, 8, 16, 17, 18, 19, 20);
            awakeAt("person a at 0 hinge;dawn 0;dusk 12;", 22, 23, 0, 1, 2, 10, 11, 12, 13, 14);
            awakeAt("person a at 0 hinge;dawn 1;dusk 22;", 23, 0, 1, 2, 3, 20, 21, 22);
            awakeAt("person a at 0 hinge;dawn 5;dusk 23;", 3, 4, 5, 6, 7, 21, 22, 23, 0, 1);
            awakeAt("person a at 0 hinge;dawn 11;dusk 12;", 9, 10, 11, 12, 13, 14);
        });
    }

    /** Of a noise of loud at 12 by a, at a house by day: harm to b, at another, by night. */
    private static int harm(int loud, int house, int other, String harm) {
        return told("person a at " + house + ";person b at " + other + " night;noise a at 12 loud " + loud + ";" + harm).harmed(1, 50);
    }

    private static void harms() {
        Edges.part("HARM to a PERSON at an HOUR");
        sentence("HARM to a PERSON at an HOUR, if he is not AWAKE:", () -> {
            HingeTown x = told("person a at 0 night;person b at 0;noise a at 17 loud 9;noise a at 18 loud 3;noise a at 5 loud 4;noise a at 6 loud 8;");
            hours(x, 5);
            due(x.person(1, 6), 4);
            x.hour();
            due(x.person(1, 6), 0);
            hours(x, 11);
            due(x.person(1, 6), 0);
            x.hour();
            due(x.person(1, 6), 3);
            due(x.harmed(1, 0), 7);
            x.go(1, 1);
            due(x.person(1, 6), 0);
            due(x.harmed(1, 0), 0);
            x.go(1, 2);
            due(x.person(1, 6), 0);
        });
        sentence("of each NOISE of another one,", () -> {
            HingeTown x = told("person a at 3;person b at 3 night;person c at 4;noise a at 12 loud 7;noise c at 12 loud 5;noise b at 12 loud 9;");
            due(x.harmed(0, 0), 0);
            due(x.harmed(1, 0), 7 + 4);
            hours(x, 12);
            due(x.person(0, 6), 0);
            due(x.person(1, 6), 7 + 4);
            x.go(0, 1);
            due(x.harmed(0, 0), 4);
            x.go(2, 1);
            due(x.harmed(0, 0) + x.harmed(1, 0) + x.harmed(2, 0), 0);
        });
        sentence("who is AWAKE and not QUIET, at that HOUR,", () -> {
            HingeTown x = told("person a at 0;person b at 0 night;noise a at 12 loud 7;noise a at 0 loud 5;");
            hours(x, 11);
            due(x.person(1, 6), 0);
            x.hour();
            due(x.person(1, 6), 7);
            x.hush(0);
            due(x.person(1, 6), 0);
            due(x.harmed(1, 0), 0);
            x.hush(0);
            x.hush(1);
            due(x.person(1, 6), 7);
            x.hour();
            due(x.person(1, 6), 0);
            due(x.harmed(1, 0), 7);
            x.go(0, 2);
            due(x.harmed(1, 0), 0);
        });
        sentence("what comes of harm (loud less far, if it is not told)", () -> {
            due(harm(5, 2, 2, ""), 5);
            due(harm(5, 2, 4, ""), 3);
            due(harm(20, 9, 0, ""), 11);
            due(harm(5, 2, 4, "harm 7;"), 7);
            due(harm(5, 2, 4, "harm 0;"), 0);
        });
        sentence("by loud, far (from house to house), hour, date,", () -> {
            due(harm(5, 2, 4, "harm loud;"), 5);
            due(harm(5, 0, 9, "harm far;"), 9);
            due(harm(5, 9, 0, "harm far;"), 9);
            due(harm(5, 6, 6, "harm far+1;"), 1);
            due(harm(5, 2, 4, "harm hour;"), 12);
            due(harm(5, 2, 4, "harm date;"), 50);
            HingeTown x = told("person a at 1;person b at 4 night;noise a at 7 loud 20;noise a at 8 loud 1;harm loud*2+far+hour+date;date 9;");
            due(x.harmed(1, 9), 40 + 3 + 7 + 9 + 2 + 3 + 8 + 9);
            due(x.harmed(1, 0), 40 + 3 + 7 + 2 + 3 + 8);
        });
        sentence("0 at least, 99 at most;", () -> {
            String[] formulas = {"0-1", "0", "1", "98", "99", "100", "9999", LEAST, LEAST + "-1"};
            int[] harms = {0, 0, 1, 98, 99, 99, 99, 0, 99};
            for (int i = 0; i < harms.length; i++) due(harm(1, 0, 0, "harm " + formulas[i] + ";"), harms[i]);
            due(harm(1, 0, 1, ""), 0);
            due(harm(1, 0, 9, ""), 0);
            due(harm(2, 0, 1, ""), 1);
        });
        sentence("together.", () -> {
            HingeTown x = told("person a at 0;person b at 1;person c at 2 night;noise a at 12 loud 5;noise b at 12 loud 16;harm loud*10-100;");
            due(x.harmed(2, 0), 60);
            String all = "";
            for (int i = 0; i < 6; i++) all += "person " + (char) ('a' + i) + " at 0;noise " + (char) ('a' + i) + " at 12 loud 1;";
            HingeTown y = told(all + "noise a at 13 loud 1;noise b at 13 loud 1;person g at 9 night;harm 100;");
            due(y.harmed(6, 0), 8 * 99);
            hours(y, 12);
            due(y.person(6, 6), 6 * 99);
        });
    }

    private static final String THREE = "person a at 0;person b at 0;person c at 0 night;meet a b hours 12 worth 1;meet a c hours 1 worth 1;";

    private static void passing() {
        sentence("An HOUR: all HARM of it is done to each (what each SUFFERED is so much more);", () -> {
            HingeTown x = told("person a at 0;person b at 1 night;person c at 3 night;noise a at 12 loud 5;noise a at 13 loud 2;noise b at 0 loud 7;");
            int[][] suffered = {{0, 0, 0, 0}, {1, 6, 0, 0}, {12, 6, 0, 0}, {13, 6, 4, 2}, {14, 6, 5, 2}, {24, 6, 5, 2}, {25, 12, 5, 2}, {38, 12, 10, 4}};
            int gone = 0;
            for (int[] d : suffered) {
                hours(x, d[0] - gone);
                gone = d[0];
                for (int p = 0; p < 3; p++) due(x.person(p, 4), d[p + 1]);
            }
        });
        sentence("two of a MEET who are both AWAKE have one HOUR more TOGETHER today;", () -> {
            HingeTown x = told(THREE);
            for (int hour = 0; hour < 24; hour++) {
                due(x.meet(0, 4), Math.max(0, Math.min(hour - 6, 12)));
                due(x.meet(1, 4), 0);
                x.hour();
            }
            HingeTown y = told("person a at 0 night;person b at 0 night;meet a b hours 24 worth 1;");
            for (int hour = 0; hour < 24; hour++) {
                due(y.meet(0, 4), hour);
                if (hour == 6 || hour == 18) {
                    y.go(0, hour / 18);
                    y.go(1, hour / 18);
                }
                y.hour();
            }
            due(y.meet(0, 5), 1);
        });
        sentence("the HOUR is one more; behind 23 it is 0 again,", () -> {
            HingeTown x = new HingeTown();
            for (int i = 0; i < 50; i++) {
                due(x.about(3), i % 24);
                x.hour();
            }
        });
        sentence("the date one more (behind 364: 0),", () -> {
            for (int date : new int[] {0, 1, 362, 363, 364}) {
                HingeTown x = told("date " + date + ";");
                hours(x, 23);
                due(x.about(4), date);
                x.hour();
                due(x.about(4), (date + 1) % 365);
                hours(x, 23);
                due(x.about(4), (date + 1) % 365);
                x.hour();
                due(x.about(4), (date + 2) % 365);
            }
            HingeTown y = told("person a at 0;person b at 0 night;noise b at 23 loud 1;harm date;date 7;");
            hours(y, 23);
            due(y.hour(), 7);
            hours(y, 23);
            due(y.hour(), 8);
        });
        sentence("each MEET of which both had its hours TOGETHER at least was MET once more,", () -> {
            HingeTown x = told("person a at 0;person b at 0;person c at 0;person d at 0;meet a b hours 12 worth 1;meet a c hours 13 worth 1;"
                + "meet b c hours 11 worth 1;meet c d hours 1 worth 1;");
            hours(x, 23);
            for (int m = 0; m < 4; m++) due(x.meet(m, 5), 0);
            x.hour();
            int[] met = {1, 0, 1, 1};
            for (int m = 0; m < 4; m++) due(x.meet(m, 5), met[m]);
            hours(x, 24);
            for (int m = 0; m < 4; m++) due(x.meet(m, 5), 2 * met[m]);
            HingeTown y = told("person a at 0 night;person b at 0 night;meet a b hours 12 worth 1;");
            hours(y, 24);
            due(y.meet(0, 5), 1);
            y.go(0, 0);
            hours(y, 10);
            y.go(0, 1);
            hours(y, 14);
            due(y.meet(0, 5), 1);
        });
        sentence("and nobody had any TOGETHER.", () -> {
            HingeTown x = told("person a at 0;person b at 0;person c at 0;meet a b hours 1 worth 1;meet a c hours 24 worth 1;");
            hours(x, 23);
            due(x.meet(0, 4) + x.meet(1, 4), 24);
            x.hour();
            due(x.meet(0, 4), 0);
            due(x.meet(1, 4), 0);
            hours(x, 7);
            due(x.meet(1, 4), 1);
        });
    }

    private static void kept() {
        sentence("ACTS: a PERSON goes to a side; one is QUIET, or is not any more; an HOUR.", () -> {
            HingeTown x = told(THREE);
            x.go(0, 1);
            due(x.about(6), 1);
            x.hush(0);
            due(x.about(6), 2);
            x.hush(0);
            due(x.about(6), 3);
            x.hour();
            due(x.about(6), 4);
            x.cut();
            x.rest();
            x.image(0);
            x.lit(0, 0, true);
            x.untell(0);
            x.later(1);
            x.feed(0, 0, 0, 0, 0);
            x.end(0);
            due(x.about(6), 4);
        });
        sentence("UNDO takes back the latest ACT that was not,", () -> {
            HingeTown x = told(THREE);
            x.go(0, 1);
            x.hush(0);
            x.go(0, 2);
            x.hush(0);
            int[][] before = {{2, 1}, {1, 1}, {1, 0}, {0, 0}};
            for (int[] b : before) {
                x.undo();
                due(x.person(0, 1), b[0]);
                due(x.person(0, 2), b[1]);
            }
            x.go(1, 2);
            x.undo();
            due(x.person(1, 1), 0);
            due(x.person(0, 1), 0);
            HingeTown y = told("person a at 0;person b at 0 night;person c at 0;meet a c hours 1 worth 1;noise a at 23 loud 5;dusk 24;date 364;");
            y.go(0, 1);
            y.go(2, 1);
            y.go(1, 0);
            hours(y, 24);
            due(y.person(1, 4), 5);
            due(y.meet(0, 5), 1);
            y.undo();
            due(y.about(3), 23);
            due(y.about(4), 364);
            due(y.person(1, 4), 0);
            due(y.meet(0, 5), 0);
            due(y.meet(0, 4), 6);
        });
        sentence("REDO does that again which was taken back last (till another ACT);", () -> {
            HingeTown x = told(THREE);
            x.go(0, 1);
            x.go(0, 2);
            x.hush(1);
            x.undo();
            x.undo();
            x.redo();
            due(x.person(0, 1), 2);
            due(x.about(5), 0);
            x.redo();
            due(x.about(5), 2);
            x.undo();
            x.go(0, 2);
            x.hush(3);
            x.back(0);
            x.undo();
            x.redo();
            due(x.about(7), 1);
            for (int act = 0; act < 3; act++) {
                HingeTown y = told(THREE);
                hours(y, 3);
                y.undo();
                y.undo();
                if (act == 0) y.go(0, 1);
                else if (act == 1) y.hush(0);
                else y.hour();
                due(y.about(7), 0);
                due(y.redo(), false);
                due(y.about(6), 2);
            }
        });
        sentence("40 at most are kept, the oldest go.", () -> {
            for (int acts : new int[] {39, 40, 41, 42, 81, 100}) {
                HingeTown x = told(THREE);
                hours(x, acts);
                int kept = Math.min(acts, 40);
                due(x.about(6), kept);
                for (int i = 0; i < kept; i++) due(x.undo(), true);
                due(x.undo(), false);
                due(x.about(3), (acts - kept) % 24);
                due(x.about(7), kept);
                for (int i = 0; i < kept; i++) due(x.redo(), true);
                due(x.redo(), false);
                due(x.about(3), acts % 24);
                due(x.about(4), acts / 24);
            }
            HingeTown y = told(THREE);
            hours(y, 45);
            for (int i = 0; i < 10; i++) y.undo();
            due(y.about(6), 30);
            y.hush(0);
            due(y.about(6), 31);
            hours(y, 9);
            due(y.about(6), 40);
            y.hour();
            due(y.about(6), 40);
            for (int i = 0; i < 39; i++) y.undo();
            due(y.about(3), 7);
            due(y.undo(), true);
            due(y.about(3), 6);
            due(y.undo(), false);
        });
    }

    private static void persons() {
        Edges.part("## Promise 6:");
        String text = "person a at 0;person b at 9 night;person c at 4 hinge;wakeful c 100;wakeful b 1;noise a at 12 loud 20;";
        sentence("Of a PERSON what 0: his house,", () -> {
            HingeTown x = told(text);
            due(x.person(0, 0), 0);
            due(x.person(1, 0), 9);
            due(x.person(2, 0), 4);
        });
        sentence("1: his side,", () -> {
            HingeTown x = told(text);
            for (int p = 0; p < 3; p++) due(x.person(p, 1), p);
            x.go(0, 2);
            x.go(2, 0);
            for (int p = 0; p < 3; p++) due(x.person(p, 1), 2 - p);
        });
        sentence("2: 1 if QUIET, else 0,", () -> {
            HingeTown x = told(text);
            for (int p = 0; p < 3; p++) due(x.person(p, 2), 0);
            x.hush(1);
            for (int p = 0; p < 3; p++) due(x.person(p, 2), p == 1 ? 1 : 0);
            x.hush(1);
            due(x.person(1, 2), 0);
        });
        sentence("3: 1 if AWAKE now, else 0,", () -> {
            HingeTown x = told(text + "dusk 18+(date=1)*2;");
            for (int hour = 0; hour < 48; hour++) {
                for (int p = 0; p < 3; p++) due(x.person(p, 3), wakes(p, 6, hour < 24 ? 18 : 20, hour % 24) ? 1 : 0);
                x.hour();
            }
        });
        sentence("4: what he SUFFERED,", () -> {
            HingeTown x = told(text);
            hours(x, 12);
            for (int p = 0; p < 3; p++) due(x.person(p, 4), 0);
            x.hour();
            due(x.person(0, 4), 0);
            due(x.person(1, 4), 11);
            due(x.person(2, 4), 16);
            hours(x, 24);
            due(x.person(1, 4), 22);
        });
        sentence("5: wakeful,", () -> {
            HingeTown x = told(text);
            due(x.person(0, 5), 0);
            due(x.person(1, 5), 1);
            due(x.person(2, 5), 100);
        });
        sentence("6: HARM to him now;", () -> {
            HingeTown x = told(text);
            for (int hour = 0; hour < 24; hour++) {
                due(x.person(0, 6), 0);
                due(x.person(1, 6), hour == 12 ? 11 : 0);
                due(x.person(2, 6), hour == 12 ? 16 : 0);
                x.hour();
            }
        });
        sentence("NONE if there is none such, or for another what.", () -> {
            HingeTown x = told(text);
            for (int p : new int[] {-1, 3, 6, 7, LOW, HIGH}) for (int w = 0; w < 7; w++) due(x.person(p, w), NONE);
            for (int w : new int[] {-1, 7, 8, LOW, HIGH}) for (int p = 0; p < 3; p++) due(x.person(p, w), NONE);
            due(new HingeTown().person(0, 0), NONE);
        });
    }

    private static void meets() {
        Edges.part("## Promise 7:");
        String text = "person a at 0;person b at 0;person c at 0 night;meet b a hours 12 worth 99;meet b c hours 1 worth 1;meet c a hours 24 worth 50;";
        sentence("Of a MEET what 0, 1: its PERSONS,", () -> {
            HingeTown x = told(text);
            int[][] both = {{1, 0}, {1, 2}, {2, 0}};
            for (int m = 0; m < 3; m++) for (int w = 0; w < 2; w++) due(x.meet(m, w), both[m][w]);
        });
        sentence("2: hours,", () -> {
            HingeTown x = told(text);
            int[] hours = {12, 1, 24};
            for (int m = 0; m < 3; m++) due(x.meet(m, 2), hours[m]);
        });
        sentence("3: worth,", () -> {
            HingeTown x = told(text);
            int[] worths = {99, 1, 50};
            for (int m = 0; m < 3; m++) due(x.meet(m, 3), worths[m]);
        });
        sentence("4: HOURS TOGETHER today,", () -> {
            HingeTown x = told(text);
            hours(x, 6);
            due(x.meet(0, 4), 0);
            x.hour();
            due(x.meet(0, 4), 1);
            hours(x, 16);
            due(x.meet(0, 4), 12);
            due(x.meet(1, 4), 0);
            x.hour();
            due(x.meet(0, 4), 0);
        });
        sentence("5: how often it was MET,", () -> {
            HingeTown x = told(text);
            hours(x, 23);
            due(x.meet(0, 5), 0);
            for (int day = 1; day <= 10; day++) {
                x.hour();
                due(x.meet(0, 5), day);
                due(x.meet(1, 5), 0);
                hours(x, 23);
            }
        });
        sentence("6: 1 if it CAN be today, else 0;", () -> {
            HingeTown x = told(text + "dusk 18-(date=1);");
            due(x.meet(0, 6), 1);
            due(x.meet(1, 6), 0);
            hours(x, 24);
            due(x.meet(0, 6), 0);
            hours(x, 24);
            due(x.meet(0, 6), 1);
        });
        sentence("NONE if there is none such, or for another what.", () -> {
            HingeTown x = told(text);
            for (int m : new int[] {-1, 3, 9, 10, LOW, HIGH}) for (int w = 0; w < 7; w++) due(x.meet(m, w), NONE);
            for (int w : new int[] {-1, 7, 8, LOW, HIGH}) for (int m = 0; m < 3; m++) due(x.meet(m, w), NONE);
            due(new HingeTown().meet(0, 0), NONE);
        });
    }

    private static void readings() {
        Edges.part("## Promise 8:");
        sentence("DAWN (what 0), DUSK (1) of a date (0 .. 364);", () -> {
            HingeTown x = told("dawn date%12;dusk 12+date%12;");
            for (int date : new int[] {0, 1, 11, 12, 182, 363, 364}) {
                due(x.light(date, 0), date % 12);
                due(x.light(date, 1), 12 + date % 12);
            }
        });
        sentence("NONE for another one, or another what.", () -> {
            HingeTown x = Edges.busy();
            for (int date : new int[] {-1, 365, 366, LOW, HIGH}) for (int w = 0; w < 2; w++) due(x.light(date, w), NONE);
            for (int w : new int[] {-1, 2, 3, LOW, HIGH}) for (int date = 0; date < 2; date++) due(x.light(date, w), NONE);
        });
        Edges.part("## Promise 9:");
        sentence("Who is AWAKE at an HOUR of a date, as bits;", () -> {
            HingeTown x = told("person a at 0;person b at 0 night;person c at 0 hinge;person d at 0;person e at 0;person f at 0;person g at 0 hinge;"
                + "dusk 18+(date=364)*2;");
            due(x.awake(0, 0), 2);
            due(x.awake(0, 4), 2 | 4 | 64);
            due(x.awake(0, 6), 1 | 4 | 8 | 16 | 32 | 64);
            due(x.awake(0, 9), 1 | 8 | 16 | 32);
            due(x.awake(0, 23), 2);
            due(x.awake(0, 18), 2 | 4 | 64);
            due(x.awake(364, 18), 1 | 4 | 8 | 16 | 32 | 64);
            x.go(0, 1);
            due(x.awake(0, 0), 3);
            due(new HingeTown().awake(0, 0), 0);
        });
        sentence("NONE if one can't be.", () -> {
            HingeTown x = Edges.busy();
            for (int date : new int[] {-1, 365, LOW, HIGH}) due(x.awake(date, 0), NONE);
            for (int hour : new int[] {-1, 24, 25, LOW, HIGH}) due(x.awake(0, hour), NONE);
            due(new HingeTown().awake(365, 0), NONE);
        });
        Edges.part("## Promise 10:");
        sentence("How loud a NOISE of a PERSON is at an HOUR (0: none is told);", () -> {
            HingeTown x = told("person a at 0;person b at 0;noise a at 0 loud 1;noise b at 23 loud 20;noise a at 23 loud 7;");
            for (int hour = 0; hour < 24; hour++) {
                due(x.noise(0, hour), hour == 0 ? 1 : hour == 23 ? 7 : 0);
                due(x.noise(1, hour), hour == 23 ? 20 : 0);
            }
            x.hush(1);
            x.go(1, 2);
            due(x.noise(1, 23), 20);
        });
        sentence("NONE if one can't be.", () -> {
            HingeTown x = Edges.busy();
            for (int p : new int[] {-1, 3, 7, LOW, HIGH}) due(x.noise(p, 2), NONE);
            for (int hour : new int[] {-1, 24, LOW, HIGH}) due(x.noise(1, hour), NONE);
            due(new HingeTown().noise(0, 0), NONE);
        });
    }

    private static void acts() {
        Edges.part("## Promise 11:");
        sentence("A PERSON goes to a side (0 .. 2): on which he was;", () -> {
            HingeTown x = told("person a at 0;person b at 0;person c at 0;person d at 0;person e at 0;person f at 0;person g at 0;");
            int[] way = {0, 1, 2, 0, 2, 1, 0};
            for (int i = 1; i < way.length; i++) {
                due(x.go(6, way[i]), way[i - 1]);
                due(x.person(6, 1), way[i]);
                due(x.person(0, 1), 0);
            }
        });
        sentence("NONE, doing nothing, if it is the same, or one can't be.", () -> {
            for (int side = 0; side < 3; side++) {
                int same = side;
                HingeTown x = told("person a at 0;");
                x.go(0, side);
                due(x.go(0, same), NONE);
            }
            Edges.refused(NONE, x -> x.go(0, 1));
            Edges.refused(NONE, x -> x.go(1, 1));
            Edges.refused(NONE, x -> x.go(2, 2));
            for (int p : new int[] {-1, 3, 7, 32, LOW, HIGH}) Edges.refused(NONE, x -> x.go(p, 0));
            for (int side : new int[] {-1, 3, LOW, HIGH}) Edges.refused(NONE, x -> x.go(0, side));
            due(new HingeTown().go(0, 1), NONE);
        });
        sentence("(An ACT.)", () -> {
            HingeTown x = Edges.busy();
            int acts = x.about(6);
            x.go(0, 2);
            due(x.about(6), acts + 1);
            due(x.about(7), 0);
            due(x.undo(), true);
            due(x.person(0, 1), 1);
            due(x.redo(), true);
            due(x.person(0, 1), 2);
        });
        Edges.part("## Promise 12:");
        sentence("A PERSON is QUIET, or is not any more: 1 if he is then, else 0;", () -> {
            HingeTown x = told("person a at 0;person b at 0;person c at 0;person d at 0;person e at 0;person f at 0;person g at 0;");
            for (int p = 0; p < 7; p++) {
                due(x.hush(p), 1);
                due(x.about(5), (2 << p) - 1);
            }
            for (int p = 0; p < 7; p++) due(x.hush(p), 0);
            due(x.about(5), 0);
        });
        sentence("NONE, doing nothing, if there is none such.", () -> {
            for (int p : new int[] {-1, 3, 7, 31, 32, 34, LOW, HIGH}) Edges.refused(NONE, x -> x.hush(p));
            due(new HingeTown().hush(0), NONE);
        });
        sentence("(An ACT.)", () -> {
            HingeTown x = Edges.busy();
            int acts = x.about(6);
            x.hush(0);
            due(x.about(6), acts + 1);
            due(x.about(7), 0);
            due(x.undo(), true);
            due(x.about(5), 4);
            due(x.redo(), true);
            due(x.about(5), 5);
        });
        Edges.part("## Promise 13:");
        sentence("An HOUR: all HARM that was done in it.", () -> {
            HingeTown x = told("person a at 0;person b at 9 night;person c at 4 hinge;noise a at 12 loud 20;noise b at 23 loud 20;noise b at 0 loud 10;");
            for (int hour = 0; hour < 48; hour++) due(x.hour(), hour % 24 == 12 ? 11 + 16 : hour % 24 == 23 ? 11 + 15 : hour % 24 == 0 ? 1 + 5 : 0);
            x.hush(0);
            for (int hour = 0; hour < 23; hour++) due(x.hour(), hour == 0 ? 1 + 5 : 0);
            due(new HingeTown().hour(), 0);
        });
        sentence("(An ACT.)", () -> {
            HingeTown x = Edges.busy();
            int acts = x.about(6);
            int hour = x.about(3);
            x.hour();
            due(x.about(6), acts + 1);
            due(x.about(7), 0);
            due(x.undo(), true);
            due(x.about(3), hour);
            due(x.redo(), true);
            due(x.about(3), hour + 1);
        });
        Edges.part("## Promise 14:");
        sentence("UNDO: true;", () -> {
            HingeTown x = told(THREE);
            x.hour();
            due(x.undo(), true);
            due(x.about(3), 0);
            due(x.about(6), 0);
            due(x.about(7), 1);
        });
        sentence("false if there is none.", () -> {
            due(new HingeTown().undo(), false);
            HingeTown x = told(THREE);
            due(x.undo(), false);
            due(x.about(7), 0);
            x.hour();
            x.undo();
            due(x.undo(), false);
            due(x.about(7), 1);
            due(x.about(3), 0);
            HingeTown y = Edges.busy();
            y.back(0);
            due(y.undo(), false);
        });
        Edges.part("## Promise 15:");
        sentence("REDO: true;", () -> {
            HingeTown x = told(THREE);
            x.hour();
            x.undo();
            due(x.redo(), true);
            due(x.about(3), 1);
            due(x.about(6), 1);
            due(x.about(7), 0);
        });
        sentence("false if there is none.", () -> {
            due(new HingeTown().redo(), false);
            HingeTown x = told(THREE);
            x.hour();
            due(x.redo(), false);
            due(x.about(3), 1);
            due(x.about(6), 1);
            x.undo();
            x.redo();
            due(x.redo(), false);
            HingeTown y = Edges.busy();
            y.back(0);
            due(y.redo(), false);
            HingeTown z = Edges.busy();
            z.hush(0);
            due(z.redo(), false);
        });
    }

    static void all() {
        suns();
        sides();
        harms();
        passing();
        kept();
        persons();
        meets();
        readings();
        acts();
    }
}
