/** Lights, times, images and what a town tells of itself, sentence by sentence: the terms of ==== 4, promises 34 to 42. */
final class LightEdges {
    private static final int NONE = Edges.NONE;
    private static final int LOW = Edges.LOW;
    private static final int HIGH = Edges.HIGH;
    private static final String ONE = "person a at 1;";
    /** a and b live at 1, c at 2. */
    private static final String HOUSES = "person a at 1;person b at 1 hinge;person c at 2 night;";

    private LightEdges() { }

    private static void sentence(String words, Runnable test) {
        Edges.sentence(words, test);
    }

    private static void due(long got, long want) {
        Edges.due(got, want);
    }

    private static void due(boolean got, boolean want) {
        Edges.due(got, want);
    }

    private static HingeTown told(String text) {
        return Check.told(text);
    }

    private static void hours(HingeTown x, int n) {
        Edges.hours(x, n);
    }

    private static HingeTown late() {
        HingeTown x = told(ONE);
        for (int i = 0; i < 100; i++) x.later(1000);
        return x;
    }

    /** On which side the one at house 1 is, if so much was seen there. */
    private static int sideBy(String text, int hour, boolean is) {
        HingeTown x = told(text);
        x.lit(1, hour, is);
        return x.sure(0, 0);
    }

    private static void times() {
        Edges.part("==== 4.");
        sentence("LIGHTS, 30 at most, are TOLD at a TIME (0 at first, goes on),", () -> {
            HingeTown x = told(ONE);
            due(x.about(9), 0);
            for (int i = 0; i < 29; i++) x.lit(1, 12, true);
            x.later(1);
            due(x.lit(1, 12, false), 29);
            due(x.lit(1, 12, false), NONE);
            due(x.about(8), 30);
            due(x.fits(0), 1);
            due(x.fits(1), 0);
        });
        sentence("UNTOLD at a later one or the same:", () -> {
            HingeTown x = told(ONE);
            x.later(4);
            x.lit(1, 12, true);
            x.untell(0);
            for (int k = 3; k < 6; k++) due(x.fits(k), 2);
            x.lit(1, 12, true);
            x.later(2);
            x.untell(1);
            int[] fits = {2, 1, 1, 2, 2};
            for (int k = 3; k < 8; k++) due(x.fits(k), fits[k - 3]);
        });
        sentence("at a house at an HOUR of today there was a light, or there was none.", () -> {
            for (int hour = 0; hour < 24; hour++) {
                boolean day = hour >= 6 && hour < 18;
                due(sideBy(ONE, hour, true), day ? 0 : 1);
                due(sideBy(ONE, hour, false), day ? 1 : 0);
            }
            due(sideBy(ONE + "dusk 18+(date=7)*2;date 7;", 19, true), 0);
            due(sideBy(ONE + "dusk 18+(date=7)*2;date 6;", 19, true), 1);
            due(sideBy(ONE + "dawn 0;dusk 23;", 23, true), 1);
            due(sideBy(ONE + "dawn 0;dusk 23;", 0, true), 0);
        });
        sentence("As known at k those count that were TOLD at k or before, not UNTOLD at k or before.", () -> {
            HingeTown x = told(HOUSES);
            x.later(10);
            x.lit(2, 12, true);
            x.later(10);
            x.untell(0);
            x.lit(2, 12, false);
            x.later(10);
            x.untell(1);
            int[][] sides = {{LOW, -2}, {-1, -2}, {0, -2}, {9, -2}, {10, 0}, {11, 0}, {19, 0}, {20, 1}, {29, 1}, {30, -2}, {31, -2}, {HIGH, -2}};
            for (int[] s : sides) {
                due(x.sure(2, s[0]), s[1]);
                due(x.fits(s[0]), s[1] == -2 ? 8 : 4);
            }
            HingeTown y = told(ONE);
            y.lit(1, 12, true);
            due(y.fits(0), 1);
            due(y.fits(-1), 2);
        });
    }

    private static void ways() {
        sentence("FITS: ways in which each PERSON is on the side of the DAY or of the NIGHT (none on the HINGE) by which all that count are so:", () -> {
            String text = "";
            for (int p = 0; p <= 7; p++) {
                due(told(text).fits(0), 1 << p);
                text += "person " + (char) ('a' + p) + " at " + p + " hinge;";
            }
            HingeTown x = told("person a at 1 hinge;");
            x.lit(1, 6, true);
            due(x.fits(0), 1);
            x.lit(1, 5, true);
            due(x.fits(0), 0);
        });
        sentence("there is a light, if one who lives there is AWAKE.", () -> {
            HingeTown x = told(HOUSES);
            x.lit(1, 12, true);
            due(x.fits(0), 6);
            x.lit(1, 0, true);
            due(x.fits(0), 4);
            HingeTown y = told(HOUSES);
            y.lit(1, 12, false);
            due(y.fits(0), 2);
            y.lit(1, 0, false);
            due(y.fits(0), 0);
            HingeTown z = told(HOUSES);
            z.lit(0, 12, false);
            z.lit(9, 0, false);
            due(z.fits(0), 8);
            z.lit(9, 0, true);
            due(z.fits(0), 0);
        });
        sentence("SURE of a PERSON: the side, if it is the same in all.", () -> {
            HingeTown x = told(HOUSES);
            for (int p = 0; p < 3; p++) due(x.sure(p, 0), -2);
            x.lit(1, 12, true);
            due(x.sure(0, 0), -2);
            x.lit(1, 0, false);
            due(x.sure(0, 0), 0);
            due(x.sure(1, 0), 0);
            due(x.sure(2, 0), -2);
            x.lit(2, 0, true);
            due(x.sure(2, 0), 1);
            due(x.fits(0), 1);
        });
        sentence("ASK of a house: the HOUR at which to look there would leave the fewest of these at the most;", () -> {
            HingeTown x = told(HOUSES);
            due(x.ask(1, 1, 0), 6);
            due(x.ask(2, 1, 0), 4);
            due(x.ask(0, 1, 0), 8);
            x.lit(1, 0, true);
            due(x.fits(0), 6);
            due(x.ask(1, 0, 0), 6);
            due(x.ask(1, 1, 0), 4);
            x.lit(1, 12, true);
            due(x.ask(1, 1, 0), 4);
            HingeTown y = told("person a at 1;person b at 1;dawn 0;dusk 23;");
            y.lit(1, 0, true);
            due(y.ask(1, 0, 0), 23);
            due(y.ask(1, 1, 0), 2);
        });
        sentence("of like ones the first.", () -> {
            HingeTown x = told(HOUSES);
            due(x.ask(2, 0, 0), 0);
            due(x.ask(1, 0, 0), 0);
            due(x.ask(9, 0, 0), 0);
            HingeTown y = told(HOUSES + "dawn 1;");
            y.lit(1, 0, true);
            due(y.ask(1, 0, 0), 1);
        });
    }

    private static void telling() {
        Edges.part("## Promise 34:");
        sentence("A LIGHT: its number;", () -> {
            HingeTown x = told(ONE);
            int[] houses = {0, 9, 1, 1};
            int[] hours = {0, 23, 0, 23};
            for (int i = 0; i < 4; i++) due(x.lit(houses[i], hours[i], i % 2 == 0), i);
            x.untell(3);
            due(x.lit(1, 1, true), 4);
            due(x.about(8), 5);
            due(new HingeTown().lit(9, 23, true), 0);
        });
        sentence("NONE, doing nothing, if one can't be, or there are 30.", () -> {
            for (int house : new int[] {-1, 10, LOW, HIGH}) Edges.refused(NONE, x -> x.lit(house, 0, true));
            for (int hour : new int[] {-1, 24, LOW, HIGH}) Edges.refused(NONE, x -> x.lit(0, hour, false));
            HingeTown y = told(ONE);
            for (int i = 0; i < 30; i++) due(y.lit(1, 12, true), i);
            due(y.lit(1, 12, false), NONE);
            due(y.about(8), 30);
            due(y.fits(0), 1);
            due(y.untell(30), false);
            y.untell(29);
            due(y.lit(1, 12, false), NONE);
            due(y.fits(0), 1);
        });
        Edges.part("## Promise 35:");
        sentence("It is UNTOLD: true;", () -> {
            HingeTown x = told(ONE);
            for (int i = 0; i < 30; i++) x.lit(1, 12, i < 29);
            due(x.fits(0), 0);
            due(x.untell(29), true);
            due(x.fits(0), 1);
            due(x.untell(0), true);
            due(x.fits(0), 1);
            due(x.about(8), 30);
        });
        sentence("false if it is so already, or there is none such.", () -> {
            Edges.refused(0, x -> x.untell(1) ? 1 : 0);
            for (int lit : new int[] {-1, 3, 29, 30, LOW, HIGH}) Edges.refused(0, x -> x.untell(lit) ? 1 : 0);
            due(new HingeTown().untell(0), false);
            HingeTown y = told(ONE);
            y.lit(1, 12, true);
            y.untell(0);
            y.later(5);
            due(y.untell(0), false);
            due(y.fits(0), 2);
            due(y.fits(4), 2);
            y.lit(1, 12, true);
            Check.tell(y, ONE);
            due(y.untell(1), false);
            y.lit(1, 12, true);
            due(y.untell(1), false);
        });
        Edges.part("## Promise 36:");
        sentence("So much later (0 .. 1000): the TIME;", () -> {
            HingeTown x = told(ONE);
            int[] by = {0, 1, 999, 1000, 0, 1000};
            int time = 0;
            for (int b : by) {
                time += b;
                due(x.later(b), time);
                due(x.about(9), time);
            }
        });
        sentence("NONE, doing nothing, for another number, or if it would be above 100,000.", () -> {
            for (int by : new int[] {-1, 1001, LOW, HIGH}) Edges.refused(NONE, x -> x.later(by));
            HingeTown y = late();
            due(y.about(9), 100000);
            for (int by : new int[] {1, 1000, 1001, -1, HIGH}) due(y.later(by), NONE);
            due(y.later(0), 100000);
            HingeTown z = told(ONE);
            for (int i = 0; i < 99; i++) z.later(1000);
            due(z.later(1), 99001);
            due(z.later(1000), NONE);
            due(z.about(9), 99001);
            due(z.later(999), 100000);
            z.lit(1, 12, true);
            due(z.fits(99999), 2);
            due(z.fits(100000), 1);
        });
        Edges.part("## Promise 37:");
        sentence("FITS: how many (1 without PERSONS, if none that counts is against it).", () -> {
            due(new HingeTown().fits(0), 1);
            HingeTown x = new HingeTown();
            x.lit(3, 3, false);
            due(x.fits(0), 1);
            x.later(2);
            x.lit(3, 3, true);
            due(x.fits(1), 1);
            due(x.fits(2), 0);
            x.untell(1);
            due(x.fits(2), 1);
            due(told("person a at 0;person b at 0;person c at 0;person d at 0;person e at 0;person f at 0;person g at 0;").fits(HIGH), 128);
        });
        Edges.part("## Promise 38:");
        sentence("SURE: the side;", () -> {
            due(sideBy(ONE, 12, true), 0);
            due(sideBy(ONE, 12, false), 1);
            HingeTown x = told("person a at 0;person b at 0;person c at 0;person d at 0;person e at 0;person f at 0;person g at 9;");
            x.lit(9, 0, true);
            due(x.sure(6, 0), 1);
            due(x.sure(5, 0), -2);
        });
        sentence("-2 if it is not the same in all;", () -> {
            HingeTown x = told(HOUSES);
            x.later(3);
            x.lit(2, 12, true);
            due(x.sure(2, 3), 0);
            due(x.sure(2, 2), -2);
            due(x.sure(0, 3), -2);
        });
        sentence("NONE if none FITS, or there is none such.", () -> {
            HingeTown x = told(HOUSES);
            for (int p : new int[] {-1, 3, 7, LOW, HIGH}) due(x.sure(p, 0), NONE);
            x.lit(5, 0, true);
            for (int p = 0; p < 3; p++) due(x.sure(p, 0), NONE);
            due(x.sure(0, -1), -2);
            due(new HingeTown().sure(0, 0), NONE);
        });
        Edges.part("## Promise 39:");
        sentence("ASK what 0: the HOUR, 1: how many are left at the most;", () -> {
            HingeTown x = told(HOUSES);
            x.later(1);
            x.lit(1, 0, true);
            due(x.ask(1, 0, 1), 6);
            due(x.ask(1, 1, 1), 4);
            due(x.ask(1, 0, 0), 0);
            due(x.ask(1, 1, 0), 6);
            due(new HingeTown().ask(0, 0, 0), 0);
            due(new HingeTown().ask(9, 1, 0), 1);
        });
        sentence("NONE if none FITS, or one can't be.", () -> {
            HingeTown x = told(HOUSES);
            for (int what = 0; what < 2; what++) for (int house : new int[] {-1, 10, LOW, HIGH}) due(x.ask(house, what, 0), NONE);
            for (int what : new int[] {-1, 2, LOW, HIGH}) due(x.ask(1, what, 0), NONE);
            x.lit(5, 0, true);
            for (int what = 0; what < 2; what++) {
                due(x.ask(1, what, 0), NONE);
                due(x.ask(1, what, -1), what * 6);
            }
        });
    }

    private static void images() {
        Edges.part("## Promise 40:");
        sentence("Sides, who is QUIET, what each SUFFERED, TOGETHER, MET, HOUR, date are kept in a BOX 0 .. 2:", () -> {
            for (int box = 0; box < 3; box++) {
                HingeTown x = told(Edges.BUSY);
                x.go(0, 1);
                x.hush(2);
                hours(x, 30);
                int[] was = {x.person(0, 1), x.about(5), x.person(2, 4), x.meet(1, 4), x.meet(1, 5), x.about(3), x.about(4)};
                x.image(box);
                x.go(0, 2);
                x.hush(1);
                hours(x, 44);
                x.back(box);
                int[] is = {x.person(0, 1), x.about(5), x.person(2, 4), x.meet(1, 4), x.meet(1, 5), x.about(3), x.about(4)};
                int[] want = {1, 4, 10, 2, 1, 6, 99};
                for (int i = 0; i < 7; i++) {
                    due(is[i], was[i]);
                    due(is[i], want[i]);
                }
            }
            HingeTown y = told("person a at 0;");
            for (int box = 0; box < 3; box++) {
                y.image(box);
                y.hour();
            }
            for (int box = 2; box >= 0; box--) {
                y.back(box);
                due(y.about(3), box);
            }
            y.back(2);
            y.image(0);
            y.hour();
            y.back(0);
            due(y.about(3), 2);
        });
        sentence("the date;", () -> {
            due(new HingeTown().image(0), 0);
            HingeTown x = told("date 364;");
            due(x.image(2), 364);
            hours(x, 24);
            due(x.image(2), 0);
        });
        sentence("NONE if there is none such.", () -> {
            for (int box : new int[] {-1, 3, 4, 32, LOW, HIGH}) Edges.refused(NONE, x -> x.image(box));
        });
        Edges.part("## Promise 41:");
        sentence("All is as it was kept", () -> {
            HingeTown x = Edges.busy();
            x.back(2);
            due(x.person(0, 1), 1);
            due(x.about(5), 4);
            due(x.about(3), 6);
            hours(x, 20);
            x.hush(2);
            x.back(2);
            due(x.about(5), 4);
            due(x.about(3), 6);
            due(x.about(8), 3);
            due(x.about(9), 5);
            due(x.about(10), 21);
            due(x.about(12), 3);
            x.back(0);
            due(x.about(5), 0);
            due(x.about(3), 0);
            due(x.person(0, 1), 0);
        });
        sentence("(no ACTS are kept then):", () -> {
            HingeTown x = Edges.busy();
            due(x.about(6) > 0 && x.about(7) > 0, true);
            x.back(0);
            due(x.about(6), 0);
            due(x.about(7), 0);
            due(x.undo() || x.redo(), false);
            x.hour();
            due(x.undo(), true);
            due(x.about(3), 0);
            due(x.undo(), false);
        });
        sentence("the date;", () -> {
            HingeTown x = told("date 364;");
            x.image(1);
            hours(x, 24);
            x.image(0);
            due(x.back(1), 364);
            due(x.back(0), 0);
        });
        sentence("NONE, doing nothing, if nothing was.", () -> {
            Edges.refused(NONE, x -> x.back(1));
            for (int box : new int[] {-1, 3, 32, LOW, HIGH}) Edges.refused(NONE, x -> x.back(box));
            for (int box = 0; box < 3; box++) due(new HingeTown().back(box), NONE);
        });
    }

    private static void about(String words, int what, int answer) {
        sentence(words, () -> due(Edges.busy().about(what), answer));
    }

    private static void abouts() {
        Edges.part("## Promise 42:");
        about("What 0: PERSONS,", 0, 3);
        about("1: MEETS,", 1, 3);
        about("2: NOISES,", 2, 3);
        about("3: the HOUR,", 3, 6);
        about("4: the date,", 4, 99);
        about("5: who is QUIET, as bits,", 5, 4);
        about("6: ACTS that can be undone,", 6, 32);
        about("7: redone,", 7, 2);
        about("8: LIGHTS,", 8, 3);
        about("9: the TIME,", 9, 5);
        about("10: bytes on the TAPE,", 10, 21);
        sentence("11: units,", () -> {
            due(Edges.busy().about(11), 5);
            due(told("dawn ((1))+date;dusk 5;harm not not loud;").about(11), 6);
        });
        about("12: how many lie there.", 12, 3);
        sentence("NONE for another what.", () -> {
            for (int what : new int[] {-1, 13, 14, LOW, HIGH}) {
                due(Edges.busy().about(what), NONE);
                due(new HingeTown().about(what), NONE);
            }
        });
    }

    private static void calls() {
        Edges.part("## What it is");
        sentence("An object is used for at most 512 calls after it has been made;", () -> {
            HingeTown x = new HingeTown();
            for (int i = 0; i < 510; i++) x.hour();
            due(x.about(4), 510 / 24);
            due(x.about(3), 510 % 24);
        });
        sentence("what later calls answer is free.", () -> {
            HingeTown x = Edges.busy();
            // Whatever they answer, they answer: no call may throw or fail to end.
            for (int i = 0; i < 9000; i++) {
                x.hour();
                x.undo();
                x.hour();
                x.feed(i, i, i, i, i);
            }
            due(x.about(0), 3);
        });
    }

    static void all() {
        times();
        ways();
        telling();
        images();
        abouts();
        calls();
    }
}
