/** What is asked of a town, and nothing is done, sentence by sentence: the terms of ==== 3, promises 16 to 33. */
final class LookEdges {
    private static final int NONE = Edges.NONE;
    private static final int NO_BLISS = Edges.NO_BLISS;
    private static final int LOW = Edges.LOW;
    private static final int HIGH = Edges.HIGH;
    private static final int[] NO_DATES = {-1, 365, 366, LOW, HIGH};
    private static final int[] NO_PERSONS = {-1, 3, 7, LOW, HIGH};
    private static final int[] NO_MEETS = {-1, 3, 10, LOW, HIGH};
    private static final int[] NOT_TWO = {-1, 2, 3, LOW, HIGH};
    private static final String DAY_DAY = "person a at 0;person b at 0;";
    private static final String DAY_NIGHT = "person a at 0;person b at 0 night;";
    /** By day, on the hinge, by night, on the hinge, by day: from hand to hand it takes two dawns and a dusk. */
    private static final String CHAIN = "person a at 0;person b at 0 hinge;person c at 0 night;person d at 0 hinge;person e at 0;"
        + "meet b a hours 24 worth 1;meet b c hours 24 worth 1;meet d c hours 24 worth 1;meet d e hours 24 worth 1;";
    /** From each of these sides it takes one round fewer to come to rest, from 22 down to none. */
    private static final String[] ROUNDS = ("0111100 1111001 1120011 1020111 0022111 0211111 2111112 1111201 1122011 1222111 2211112 2111202 "
        + "1122001 1000011 0000211 0022211 0222211 2222212 2222202 2222002 2200002 2000002 0000000").split(" ");
    private static final String SLOW = "meet b c hours 3 worth 90;meet e c hours 1 worth 41;meet b a hours 8 worth 58;meet c d hours 2 worth 68;"
        + "meet b d hours 8 worth 28;meet a g hours 9 worth 42;meet g f hours 1 worth 36;meet a c hours 4 worth 28;meet e f hours 14 worth 15;"
        + "meet a d hours 1 worth 8;noise f at 6 loud 4;noise e at 1 loud 18;noise c at 20 loud 5;noise f at 21 loud 7;noise a at 3 loud 6;"
        + "noise e at 10 loud 17;noise g at 20 loud 5;noise g at 16 loud 11;dawn 7;dusk 22;"
        + "harm (loud*331+far*971+hour*320+loud*far*408+hour*far*793)%51;";

    private LookEdges() { }

    private static void sentence(String words, Runnable test) {
        Edges.sentence(words, test);
    }

    private static void due(long got, long want) {
        Edges.due(got, want);
    }

    private static HingeTown told(String text) {
        return Check.told(text);
    }

    private static void hours(HingeTown x, int n) {
        Edges.hours(x, n);
    }

    private static void lying(HingeTown x, int... sides) {
        Edges.lying(x, sides);
    }

    private static HingeTown slow(String sides) {
        int[] houses = {9, 7, 7, 7, 4, 4, 4};
        String text = "";
        for (int p = 0; p < 7; p++) {
            text += "person " + (char) ('a' + p) + " at " + houses[p] + new String[] {"", " night", " hinge"}[sides.charAt(p) - '0'] + ";";
        }
        return told(text + SLOW);
    }

    private static void nothingDone() {
        Edges.part("==== 3.");
        sentence("(By what is now; nothing is done.)", () -> {
            Edges.changesNothing(x -> {
                for (int p = -1; p < 4; p++) {
                    x.common(p, 1, 98);
                    x.common(0, p, 364);
                    x.harmed(p, 100);
                    x.joy(p, 99);
                    x.spread(p, 30);
                }
            });
            Edges.changesNothing(x -> {
                for (int p = -1; p < 4; p++) {
                    for (int q = 0; q < 3; q++) {
                        x.post(p, q);
                        x.wake(p, q, 0);
                        x.wake(p, q, 1);
                    }
                }
            });
            Edges.changesNothing(x -> {
                for (int date : new int[] {-1, 0, 98, 364, 365}) {
                    x.can(date);
                    x.bliss(date);
                    x.lonely(date);
                    x.hinges(date);
                    x.loudest(date, 0);
                    x.loudest(date, 1);
                    for (int m = -1; m < 4; m++) x.odds(m, date, 0);
                }
                for (int m = -1; m < 4; m++) {
                    x.never(m);
                    x.dates(m);
                }
                x.shop(0);
                x.lies(0);
            });
            // What they lay there is all that these do: the cut laid there by busy() is the same.
            Edges.changesNothing(x -> {
                x.rest();
                x.cut();
            });
            HingeTown x = told(DAY_NIGHT + "meet a b hours 12 worth 5;noise a at 12 loud 3;");
            due(x.can(7), 0);
            due(x.bliss(7), -3);
            x.hush(0);
            due(x.bliss(7), 0);
            x.go(1, 0);
            due(x.can(7), 1);
            due(x.never(0), NONE);
            due(x.dates(0), 365);
            due(x.bliss(7), 5);
            for (int again = 0; again < 3; again++) due(x.cut(), 5);
            x.go(0, 1);
            x.go(1, 1);
            due(x.cut(), 5);
            lying(x, 1, 1);
            due(x.rest(), 0);
            lying(x, 1, 1);
            HingeTown y = told("person a at 1 hinge;person b at 0;person c at 2 night;noise b at 12 loud 9;noise c at 2 loud 9;harm (far=1)*9;");
            for (int again = 0; again < 3; again++) due(y.rest(), 1);
            y.hush(1);
            due(y.rest(), 1);
            lying(y, 1, 0, 1);
            y.hush(2);
            due(y.rest(), 0);
            lying(y, 2, 0, 1);
            due(y.cut(), 0);
            lying(y, 2, 0, 1);
        });
    }

    private static int common(int side, int other, int dawn, int dusk) {
        HingeTown x = told(DAY_DAY + "dawn " + dawn + ";dusk " + dusk + ";");
        x.go(0, side);
        x.go(1, other);
        return x.common(0, 1, 0);
    }

    private static void meeting() {
        sentence("COMMON of two PERSONS on a date: HOURS at which both are AWAKE.", () -> {
            // Sides of both, dawn, dusk, and the hours.
            int[][] all = {{0, 0, 6, 18, 12}, {0, 0, 0, 23, 23}, {0, 0, 11, 12, 1}, {1, 1, 6, 18, 12}, {1, 1, 0, 23, 1}, {1, 1, 11, 12, 23},
                {0, 1, 6, 18, 0}, {0, 1, 0, 23, 0}, {0, 1, 11, 12, 0}, {2, 2, 6, 18, 10}, {2, 2, 11, 12, 6}, {2, 2, 0, 23, 6}, {0, 2, 6, 18, 5},
                {0, 2, 11, 12, 1}, {0, 2, 0, 23, 5}, {1, 2, 6, 18, 5}, {1, 2, 11, 12, 5}, {1, 2, 0, 23, 1}};
            for (int[] c : all) {
                due(common(c[0], c[1], c[2], c[3]), c[4]);
                due(common(c[1], c[0], c[2], c[3]), c[4]);
            }
        });
        sentence("A MEET CAN be on a date, if COMMON is its hours at least.", () -> {
            for (int hours = 1; hours <= 24; hours++) {
                due(told(DAY_DAY + "meet a b hours " + hours + " worth 1;").can(0), hours <= 12 ? 1 : 0);
                due(told(DAY_NIGHT + "meet a b hours " + hours + " worth 1;").can(0), 0);
                due(told(DAY_DAY + "meet a b hours " + hours + " worth 1;dawn 0;dusk 23;").can(0), hours <= 23 ? 1 : 0);
            }
        });
        sentence("NEVER: the first date from today on, round the year, on which it CAN not.", () -> {
            // Today, a date on which it can't, another one, and the answer.
            int[][] all = {{7, 7, 8, 7}, {7, 8, 9, 8}, {7, 6, 6, 6}, {7, 6, 364, 364}, {364, 0, 363, 0}, {364, 363, 363, 363}, {0, 364, 364, 364},
                {0, 0, 0, 0}, {1, 0, 0, 0}, {200, 100, 199, 100}, {364, 364, 0, 364}};
            for (int[] a : all) {
                String text = DAY_DAY + "meet a b hours 12 worth 1;dusk 18-(date=" + a[1] + " or date=" + a[2] + ");date " + a[0] + ";";
                due(told(text).never(0), a[3]);
            }
        });
        sentence("BLISS of a date: worths of MEETS that CAN be, less all HARM of the date.", () -> {
            due(told(DAY_NIGHT + "noise a at 12 loud 1;").bliss(0), -1);
            HingeTown x = told("person a at 0;person b at 1;person c at 2 night;meet a b hours 12 worth 99;meet a c hours 1 worth 98;meet b c hours 1 worth 97;"
                + "noise a at 12 loud 9;noise b at 12 loud 9;noise c at 0 loud 9;dusk 18-(date=3);");
            due(x.bliss(0), 99 - 7 - 8 - 7 - 8);
            due(x.bliss(3), -30);
            due(told(DAY_NIGHT).bliss(364), 0);
        });
    }

    private static void cutting() {
        sentence("CUT: which sides all should be on (HINGE, too), so that BLISS of today is greatest;", () -> {
            HingeTown x = told("person c at 0;person a at 0;person b at 0;person d at 0 night;person e at 0 night;meet c a hours 5 worth 1;"
                + "meet c b hours 5 worth 1;meet d c hours 5 worth 1;meet e c hours 5 worth 1;");
            due(x.cut(), 4);
            lying(x, 2, 0, 0, 1, 1);
            HingeTown y = told(DAY_NIGHT + "meet a b hours 13 worth 7;noise a at 12 loud 9;dusk 18+(date=5);date 4;");
            due(y.cut(), 0);
            lying(y, 0, 0);
            hours(y, 24);
            due(y.cut(), 7);
            lying(y, 0, 0);
            HingeTown z = told(DAY_DAY + "meet a b hours 13 worth 7;dusk 17;");
            due(z.cut(), 7);
            lying(z, 1, 1);
            HingeTown w = told("person a at 0;person b at 0 night;noise b at 0 loud 9;noise b at 12 loud 9;");
            due(w.cut(), 0);
            lying(w, 0, 0);
        });
        sentence("of like ones those by which fewest change;", () -> {
            HingeTown x = told("person a at 0 night;person b at 0 night;meet a b hours 12 worth 5;");
            due(x.cut(), 5);
            lying(x, 1, 1);
            HingeTown y = told("person a at 0;person b at 0 night;person c at 0 night;meet a b hours 12 worth 5;meet b c hours 12 worth 5;");
            due(y.cut(), 10);
            lying(y, 1, 1, 1);
            HingeTown z = told("person a at 0 hinge;person b at 0 hinge;person c at 0 hinge;person d at 0 hinge;person e at 0 hinge;"
                + "person f at 0 hinge;person g at 0 hinge;");
            due(z.cut(), 0);
            lying(z, 2, 2, 2, 2, 2, 2, 2);
        });
        sentence("of like ones the first (PERSON by PERSON).", () -> {
            HingeTown x = told(DAY_NIGHT + "meet a b hours 12 worth 5;");
            due(x.cut(), 5);
            lying(x, 0, 0);
            HingeTown y = told("person a at 0 night;person b at 0;person c at 0 night;noise a at 2 loud 5;noise a at 12 loud 5;");
            due(y.cut(), 0);
            // Either b or a changes: night, night comes before hinge, day.
            lying(y, 1, 1, 1);
        });
    }

    private static void resting() {
        sentence("JOY of a PERSON on a date: worths of his MEETS that CAN be, less HARM to him.", () -> {
            HingeTown x = told("person a at 0;person b at 1;person c at 2 night;meet a b hours 12 worth 99;meet c a hours 1 worth 98;"
                + "noise a at 12 loud 9;noise c at 0 loud 9;dusk 18-(date=3);");
            due(x.joy(0, 0), 99 - 7);
            due(x.joy(1, 0), 99 - 8);
            due(x.joy(2, 0), -7);
            due(x.joy(0, 3), -7);
            due(told(DAY_NIGHT + "noise a at 12 loud 1;").joy(1, 0), -1);
        });
        sentence("REST: in a round, PERSON by PERSON, each goes to the side by which his JOY of today is greatest", () -> {
            HingeTown x = told(DAY_NIGHT + "meet a b hours 12 worth 5;");
            due(x.rest(), 1);
            lying(x, 1, 1);
            HingeTown y = told(DAY_NIGHT + "meet a b hours 13 worth 5;dusk 18+(date=1)*2;");
            due(y.rest(), 0);
            lying(y, 0, 1);
            hours(y, 24);
            due(y.rest(), 1);
            lying(y, 0, 0);
        });
        sentence("(of like ones his own, then the first):", () -> {
            HingeTown x = told("person a at 0 hinge;person b at 0;meet a b hours 5 worth 5;");
            due(x.rest(), 0);
            lying(x, 2, 0);
            HingeTown y = told(DAY_NIGHT + "meet a b hours 5 worth 5;");
            due(y.rest(), 1);
            lying(y, 1, 1);
            // On the hinge a is harmed at 2 and at 12; by day and by night at one of them alike.
            HingeTown z = told("person a at 1 hinge;person b at 0;person c at 2 night;noise b at 12 loud 9;noise c at 2 loud 9;harm (far=1)*9;");
            due(z.rest(), 1);
            lying(z, 0, 0, 1);
        });
        sentence("the fewest rounds (0 .. 20) behind which one more changes nothing.", () -> {
            for (int i = 0; i < ROUNDS.length; i++) {
                int rounds = ROUNDS.length - 1 - i;
                due(slow(ROUNDS[i]).rest(), rounds <= 20 ? rounds : NONE);
            }
        });
    }

    private static void shopping() {
        sentence("SHOP: HOURS beside one another (none over midnight),", () -> {
            HingeTown x = told(DAY_NIGHT + "dawn 0;dusk 23;");
            due(x.shop(0), 22);
            due(x.shop(1), 2);
            HingeTown y = told(DAY_NIGHT + "dawn 0;dusk 12;");
            due(y.shop(0), 11);
            due(y.shop(1), 2);
        });
        sentence("the fewest, by which each PERSON is AWAKE in some of them today;", () -> {
            HingeTown x = told("person a at 0;person b at 0 night;person c at 0 hinge;dawn 0+(date=1)*11;dusk 12;");
            due(x.shop(0), 11);
            due(x.shop(1), 2);
            hours(x, 24);
            due(x.shop(0), 10);
            due(x.shop(1), 2);
            x.go(1, 2);
            due(x.shop(0), 11);
            due(x.shop(1), 1);
        });
        sentence("of like ones the earliest.", () -> {
            HingeTown x = told(DAY_NIGHT);
            due(x.shop(0), 5);
            x.go(1, 0);
            due(x.shop(0), 6);
            x.go(0, 1);
            x.go(1, 1);
            due(x.shop(0), 0);
            x.go(1, 2);
            due(x.shop(0), 4);
        });
    }

    private static void posting() {
        sentence("POST from a PERSON to another one: at each HOUR, from now on, who has the letter gives it to all who are AWAKE with him, "
            + "if he has a MEET with them (and so on at the same HOUR):", () -> {
            HingeTown x = told(CHAIN);
            due(x.post(0, 1), 7);
            due(x.post(0, 2), 19);
            due(x.post(0, 3), 19);
            due(x.post(0, 4), 31);
            due(x.post(4, 0), 31);
            hours(x, 7);
            due(x.post(0, 1), 1);
            hours(x, 2);
            due(x.post(0, 1), 8);
            due(told(DAY_DAY + "person c at 0;meet a b hours 1 worth 1;").post(0, 2), NONE);
            due(told("person a at 0;person b at 0;person c at 0;person d at 0;dawn 0;"
                + "meet d c hours 1 worth 1;meet c b hours 1 worth 1;meet b a hours 1 worth 1;").post(0, 3), 1);
            HingeTown y = told(DAY_DAY + "meet a b hours 1 worth 1;dawn (date=0)*3+(date=364)*11;date 364;");
            hours(y, 20);
            due(y.post(0, 1), 4 + 3 + 1);
        });
        sentence("behind how many HOURS gone by the other one has it (0: he is it).", () -> {
            HingeTown x = told(CHAIN);
            for (int p = 0; p < 5; p++) due(x.post(p, p), 0);
            hours(x, 5);
            due(x.post(2, 1), 1);
            due(x.post(0, 1), 2);
            due(told("person a at 0;").post(0, 0), 0);
        });
        sentence("WAKE for POST at once: the fewest PERSONS not AWAKE now who must be woken (the first, the last one, too) so that it comes at this HOUR;", () -> {
            HingeTown x = told(CHAIN);
            due(x.wake(0, 4, 1), 1 | 2 | 8 | 16);
            due(x.wake(2, 1, 1), 2);
            due(x.wake(1, 2, 1), 2);
            due(x.wake(0, 1, 1), 3);
            hours(x, 4);
            due(x.wake(1, 3, 1), 0);
            due(x.wake(1, 3, 0), 0);
            due(x.wake(0, 3, 1), 1);
            hours(x, 1);
            due(x.wake(0, 1, 1), 1);
            due(x.wake(1, 2, 1), 0);
            x.hour();
            due(x.wake(0, 1, 1), 0);
            due(x.wake(1, 2, 1), 4);
            due(x.wake(0, 4, 1), 4);
            due(x.wake(0, 4, 0), 1);
            hours(x, 11);
            due(x.wake(0, 1, 1), 0);
            x.hour();
            due(x.wake(0, 1, 1), 1);
            due(told(DAY_DAY + "meet a b hours 1 worth 1;").wake(0, 1, 1), 3);
            HingeTown z = told(DAY_DAY + "meet a b hours 1 worth 1;dawn 0+(date=364)*11;dusk 12;date 364;");
            hours(z, 23);
            due(z.wake(0, 1, 1), 3);
            z.hour();
            due(z.wake(0, 1, 1), 0);
            HingeTown y = told("person a at 0;person b at 0;person c at 0;person d at 0 night;person e at 0 night;meet d a hours 1 worth 1;"
                + "meet a b hours 1 worth 1;meet b e hours 1 worth 1;meet d c hours 1 worth 1;meet c e hours 1 worth 1;");
            due(y.wake(3, 4, 1), 4);
            due(y.wake(3, 4, 0), 1);
        });
        sentence("of like ones the least set as bits.", () -> {
            HingeTown x = told("person a at 0 night;person b at 0;person c at 0;person d at 0;person e at 0 night;meet a d hours 1 worth 1;meet d e hours 1 worth 1;"
                + "meet a c hours 1 worth 1;meet c e hours 1 worth 1;meet a b hours 1 worth 1;meet b e hours 1 worth 1;");
            due(x.wake(0, 4, 1), 2);
            HingeTown y = told("person a at 0 night;person b at 0;person c at 0;person d at 0;person e at 0;person f at 0 night;meet a e hours 1 worth 1;"
                + "meet e b hours 1 worth 1;meet b f hours 1 worth 1;meet a d hours 1 worth 1;meet d c hours 1 worth 1;meet c f hours 1 worth 1;");
            due(y.wake(0, 5, 1), 4 | 8);
        });
        sentence("ODDS of a MEET on a date: that it CAN be, if each of both is AWAKE at all HOURS of it by so many of 100 as wakeful tells, each by himself.", () -> {
            // By so many of 100 each, the hours that a meet of day and night wants, and the odds.
            int[][] all = {{50, 20, 12, 3, 5}, {50, 20, 13, 1, 10}, {50, 20, 24, 1, 10}, {100, 0, 12, 1, 1}, {100, 0, 13, 0, 1}, {0, 0, 1, 0, 1},
                {100, 100, 24, 1, 1}, {1, 1, 24, 1, 10000}, {99, 99, 24, 9801, 10000}, {1, 0, 12, 1, 100}, {0, 1, 12, 1, 100}, {1, 1, 12, 199, 10000}};
            for (int[] a : all) {
                HingeTown x = told(DAY_NIGHT + "wakeful a " + a[0] + ";wakeful b " + a[1] + ";meet a b hours " + a[2] + " worth 1;");
                due(x.odds(0, 0, 0), a[3]);
                due(x.odds(0, 364, 1), a[4]);
            }
            HingeTown y = told(DAY_NIGHT + "wakeful a 30;meet a b hours 12 worth 1;dusk 18+(date=9)*2;");
            due(y.odds(0, 8, 0), 3);
            due(y.odds(0, 8, 1), 10);
            due(y.odds(0, 9, 0), 0);
            y.go(1, 0);
            due(y.odds(0, 8, 0), 1);
            due(y.odds(0, 8, 1), 1);
        });
    }

    private static void promisesOfMeets() {
        Edges.part("## Promise 16:");
        sentence("COMMON;", () -> {
            HingeTown x = Edges.busy();
            due(x.common(0, 1, 98), 12);
            due(x.common(0, 1, 100), 10);
            due(x.common(2, 0, 0), 5);
            due(x.common(0, 2, 364), 5);
        });
        sentence("NONE if one can't be (one twice: HOURS at which he is AWAKE).", () -> {
            HingeTown x = Edges.busy();
            for (int p : NO_PERSONS) {
                due(x.common(p, 0, 0), NONE);
                due(x.common(0, p, 0), NONE);
                due(x.common(p, p, 0), NONE);
            }
            for (int date : NO_DATES) due(x.common(0, 1, date), NONE);
            HingeTown y = told("person a at 0;person b at 0 night;person c at 0 hinge;dusk 19;");
            int[] hours = {13, 11, 10};
            for (int p = 0; p < 3; p++) due(y.common(p, p, 364), hours[p]);
        });
        Edges.part("## Promise 17:");
        sentence("MEETS that CAN be on a date, as bits;", () -> {
            String text = "";
            for (int p = 0; p < 5; p++) text += "person " + (char) ('a' + p) + " at 0;";
            for (int p = 0; p < 5; p++) for (int q = 0; q < p; q++) text += "meet " + (char) ('a' + p) + " " + (char) ('a' + q) + " hours 12 worth 1;";
            HingeTown x = told(text + "dusk 18-(date=364);");
            due(x.can(0), 1023);
            due(x.can(364), 0);
            x.go(0, 1);
            due(x.can(0), 1023 & ~(1 | 2 | 8 | 64));
            due(told(DAY_DAY).can(0), 0);
        });
        sentence("NONE for another date.", () -> {
            for (int date : NO_DATES) due(Edges.busy().can(date), NONE);
        });
        Edges.part("## Promise 18:");
        sentence("NEVER;", () -> {
            HingeTown x = told(DAY_DAY + "meet a b hours 12 worth 1;dusk 18-(date=7);date 7;");
            due(x.never(0), 7);
            hours(x, 24);
            due(x.never(0), 7);
            x.go(0, 1);
            due(x.never(0), 8);
        });
        sentence("NONE if it always CAN, or there is no such MEET.", () -> {
            due(told(DAY_DAY + "meet a b hours 12 worth 1;date 364;").never(0), NONE);
            for (int meet : NO_MEETS) due(Edges.busy().never(meet), NONE);
            due(new HingeTown().never(0), NONE);
        });
        Edges.part("## Promise 19:");
        sentence("On how many dates of the year a MEET CAN be;", () -> {
            String[] dusks = {"18", "17", "17+(date=364)", "17+(date=0)", "18-(date=364)", "18-(date=0)", "18-(date>99)"};
            int[] counts = {365, 0, 1, 1, 364, 364, 100};
            for (int i = 0; i < counts.length; i++) due(told(DAY_DAY + "meet a b hours 12 worth 1;date 50;dusk " + dusks[i] + ";").dates(0), counts[i]);
        });
        sentence("NONE if there is none such.", () -> {
            for (int meet : NO_MEETS) due(Edges.busy().dates(meet), NONE);
            due(new HingeTown().dates(0), NONE);
        });
    }

    private static void promisesOfHarm() {
        Edges.part("## Promise 20:");
        sentence("HARM to a PERSON in all of a date;", () -> {
            HingeTown x = told(DAY_NIGHT + "noise b at 0 loud 1;noise b at 5 loud 2;noise b at 6 loud 4;noise b at 18 loud 8;noise b at 23 loud 16;"
                + "noise a at 12 loud 3;harm loud+(date=364);");
            due(x.harmed(0, 0), 1 + 2 + 8 + 16);
            due(x.harmed(0, 364), 1 + 2 + 8 + 16 + 4);
            due(x.harmed(1, 0), 3);
            hours(x, 5);
            due(x.harmed(0, 0), 27);
        });
        sentence("NONE if one can't be.", () -> {
            HingeTown x = Edges.busy();
            for (int p : NO_PERSONS) due(x.harmed(p, 0), NONE);
            for (int date : NO_DATES) due(x.harmed(0, date), NONE);
        });
        Edges.part("## Promise 21:");
        sentence("BLISS;", () -> {
            HingeTown x = told(Edges.BUSY);
            due(x.bliss(98), -7);
            HingeTown y = told(DAY_DAY + "meet a b hours 12 worth 5;dusk 18-(date=364);");
            due(y.bliss(0), 5);
            due(y.bliss(364), 0);
            due(new HingeTown().bliss(0), 0);
            due(new HingeTown().bliss(364), 0);
        });
        sentence("-1000000 for another date.", () -> {
            for (int date : NO_DATES) due(Edges.busy().bliss(date), NO_BLISS);
            due(new HingeTown().bliss(365), NO_BLISS);
        });
        Edges.part("## Promise 22:");
        sentence("CUT: BLISS then.", () -> {
            due(told(Edges.BUSY).cut(), 10);
            due(told(DAY_DAY + "meet a b hours 13 worth 5;").cut(), 0);
            due(new HingeTown().cut(), 0);
            HingeTown x = slow(ROUNDS[0]);
            due(x.cut(), 90 + 41 + 58 + 68 + 28 + 42 + 36 + 28 + 15 + 8);
        });
        sentence("The side of each lies there then.", () -> {
            HingeTown x = slow(ROUNDS[0]);
            x.cut();
            lying(x, 0, 0, 0, 0, 0, 0, 0);
            due(x.person(1, 1), 1);
            HingeTown y = new HingeTown();
            y.cut();
            lying(y);
            HingeTown z = told("person a at 0 hinge;");
            z.cut();
            lying(z, 2);
        });
        Edges.part("## Promise 23:");
        sentence("JOY;", () -> {
            HingeTown x = told(Edges.BUSY);
            int[] joys = {-2, 1, -1};
            for (int p = 0; p < 3; p++) due(x.joy(p, 98), joys[p]);
            HingeTown y = told(DAY_DAY + "meet a b hours 12 worth 5;dusk 18-(date=364);");
            due(y.joy(1, 0), 5);
            due(y.joy(1, 364), 0);
        });
        sentence("-1000000 if one can't be.", () -> {
            HingeTown x = Edges.busy();
            for (int p : NO_PERSONS) due(x.joy(p, 0), NO_BLISS);
            for (int date : NO_DATES) due(x.joy(0, date), NO_BLISS);
            due(new HingeTown().joy(0, 0), NO_BLISS);
        });
    }

    private static void promisesOfSides() {
        Edges.part("## Promise 24:");
        sentence("PERSONS of whose MEETS none CAN be on a date (also without any), as bits;", () -> {
            String seven = "person a at 0;person b at 0;person c at 0;person d at 0;person e at 0;person f at 0;person g at 0;";
            due(told(seven).lonely(0), 127);
            HingeTown x = told(seven + "meet g a hours 12 worth 1;meet a b hours 13 worth 1;meet b c hours 12 worth 1;dusk 18-(date=364)+(date=363);");
            due(x.lonely(0), 8 | 16 | 32);
            due(x.lonely(363), 8 | 16 | 32);
            due(x.lonely(364), 127);
            due(new HingeTown().lonely(0), 0);
        });
        sentence("NONE for another date.", () -> {
            for (int date : NO_DATES) due(Edges.busy().lonely(date), NONE);
            due(new HingeTown().lonely(365), NONE);
        });
        Edges.part("## Promise 25:");
        sentence("HOURS at which all are AWAKE on a date, as bits (all of them, if there is nobody);", () -> {
            due(new HingeTown().hinges(0), 0xffffff);
            due(new HingeTown().hinges(364), 0xffffff);
            due(told("person a at 0;dawn 0;dusk 23;").hinges(0), 0x7fffff);
            due(told("person a at 0 night;dawn 0;dusk 23;").hinges(0), 0x800000);
            due(told("person a at 0 night;person b at 0 night;").hinges(0), 0xfc003f);
            HingeTown x = told("person a at 0 hinge;person b at 0;dusk 18+(date=364);");
            due(x.hinges(0), 7 << 6 | 3 << 16);
            due(x.hinges(364), 7 << 6 | 3 << 17);
            due(told(DAY_NIGHT).hinges(0), 0);
        });
        sentence("NONE for another date.", () -> {
            for (int date : NO_DATES) due(Edges.busy().hinges(date), NONE);
            due(new HingeTown().hinges(-1), NONE);
        });
        Edges.part("## Promise 26:");
        String loud = "person a at 0;person b at 0 night;person c at 0;noise a at 12 loud 5;noise c at 12 loud 7;noise a at 13 loud 4;noise b at 0 loud 2;";
        sentence("The PERSON by whose being QUIET alone all HARM of a date would be least (of those who are not, others as they are) "
            + "what 0: who, 1: how much less;", () -> {
            HingeTown x = told(loud);
            due(x.loudest(0, 0), 0);
            due(x.loudest(0, 1), 9);
            x.hush(0);
            due(x.loudest(0, 0), 2);
            due(x.loudest(0, 1), 7);
            x.hush(2);
            due(x.loudest(0, 0), 1);
            due(x.loudest(0, 1), 4);
            x.go(0, 1);
            due(x.loudest(0, 1), 2);
            HingeTown y = told(DAY_NIGHT + "noise a at 18 loud 9;noise b at 3 loud 5;dusk 18+(date=364);");
            due(y.loudest(0, 0), 1);
            due(y.loudest(364, 0), 0);
            HingeTown z = told(DAY_DAY);
            z.hush(0);
            due(z.loudest(0, 0), 1);
            due(z.loudest(0, 1), 0);
        });
        sentence("of like ones the first;", () -> {
            due(told("person a at 0;person b at 0;person c at 0 night;noise b at 12 loud 5;noise a at 13 loud 5;").loudest(0, 0), 0);
            HingeTown x = told("person a at 0;person b at 0;person c at 0;");
            due(x.loudest(0, 0), 0);
            due(x.loudest(0, 1), 0);
            x.hush(0);
            due(x.loudest(0, 0), 1);
        });
        sentence("NONE if all are QUIET already, there is nobody, or one can't be.", () -> {
            HingeTown x = told(loud);
            for (int p = 0; p < 3; p++) x.hush(p);
            due(x.loudest(0, 0), NONE);
            due(x.loudest(0, 1), NONE);
            due(new HingeTown().loudest(0, 0), NONE);
            due(new HingeTown().loudest(0, 1), NONE);
            for (int date : NO_DATES) for (int what = 0; what < 2; what++) due(told(loud).loudest(date, what), NONE);
            for (int what : NOT_TWO) due(told(loud).loudest(0, what), NONE);
        });
        Edges.part("## Promise 27:");
        sentence("REST: how many rounds;", () -> {
            due(told(Edges.BUSY).rest(), 1);
            due(new HingeTown().rest(), 0);
            due(slow(ROUNDS[2]).rest(), 20);
            due(slow(ROUNDS[22]).rest(), 0);
        });
        sentence("NONE if 20 are not enough.", () -> {
            due(slow(ROUNDS[0]).rest(), NONE);
            due(slow(ROUNDS[1]).rest(), NONE);
            due(told("person a at 0;person b at 1 hinge;person c at 2;person d at 3 hinge;meet b d hours 6 worth 10;meet c b hours 10 worth 12;"
                + "noise d at 4 loud 12;noise d at 18 loud 6;noise c at 17 loud 3;noise d at 5 loud 17;noise d at 19 loud 2;noise a at 11 loud 4;"
                + "noise c at 21 loud 8;noise d at 10 loud 19;harm loud*(far%2);").rest(), NONE);
        });
        sentence("The side of each lies there then (behind NONE: nothing).", () -> {
            HingeTown x = slow(ROUNDS[2]);
            x.rest();
            lying(x, 0, 0, 0, 0, 0, 0, 0);
            due(x.person(0, 1), 1);
            HingeTown y = slow(ROUNDS[1]);
            y.cut();
            due(y.about(12), 7);
            y.rest();
            lying(y);
            HingeTown z = new HingeTown();
            z.rest();
            lying(z);
        });
        Edges.part("## Promise 28:");
        sentence("SHOP what 0: the first HOUR, 1: how many;", () -> {
            HingeTown x = told(DAY_NIGHT);
            due(x.shop(0), 5);
            due(x.shop(1), 2);
        });
        sentence("NONE if there is nobody, somebody is never AWAKE today, or for another what.", () -> {
            due(new HingeTown().shop(0), NONE);
            due(new HingeTown().shop(1), NONE);
            for (int what : NOT_TWO) due(Edges.busy().shop(what), NONE);
            // Whatever DAWN and DUSK are, each side has its hours: nobody is never awake.
            for (int dawn = 0; dawn < 12; dawn++) {
                for (int dusk = 12; dusk < 24; dusk++) {
                    HingeTown x = told("person a at 0 hinge;dawn " + dawn + ";dusk " + dusk + ";");
                    due(x.shop(0), dawn <= 2 || dusk >= 22 ? 0 : dawn - 2);
                    due(x.shop(1), 1);
                    x.go(0, 0);
                    due(x.shop(0), dawn);
                    x.go(0, 1);
                    due(x.shop(0), dawn == 0 ? dusk : 0);
                }
            }
        });
    }

    private static void promisesOfLetters() {
        Edges.part("## Promise 29:");
        sentence("POST;", () -> {
            HingeTown x = told(Edges.BUSY);
            due(x.post(0, 1), 19);
            due(x.post(1, 0), 7);
        });
        sentence("NONE if not within 240 HOURS, or one can't be.", () -> {
            due(told(DAY_NIGHT + "meet a b hours 1 worth 1;").post(0, 1), NONE);
            due(told(DAY_DAY).post(0, 1), NONE);
            HingeTown x = Edges.busy();
            for (int p : NO_PERSONS) {
                due(x.post(p, 0), NONE);
                due(x.post(0, p), NONE);
                due(x.post(p, p), NONE);
            }
        });
        Edges.part("## Promise 30:");
        sentence("Who has a letter of a PERSON behind n HOURS (0 .. 240), he, too, as bits;", () -> {
            HingeTown x = told(CHAIN);
            int[][] all = {{0, 1}, {1, 1}, {6, 1}, {7, 3}, {18, 3}, {19, 15}, {30, 15}, {31, 31}, {239, 31}, {240, 31}};
            for (int[] a : all) due(x.spread(0, a[0]), a[1]);
            HingeTown y = told(DAY_NIGHT + "meet a b hours 1 worth 1;");
            due(y.spread(1, 0), 2);
            due(y.spread(1, 240), 2);
            HingeTown w = told(DAY_DAY + "meet a b hours 1 worth 1;");
            hours(w, 17);
            due(w.spread(0, 0), 1);
            due(w.spread(0, 1), 3);
            w.hour();
            due(w.spread(0, 1), 1);
            due(w.spread(0, 12), 1);
            due(w.spread(0, 13), 3);
            HingeTown z = told(DAY_DAY + "meet a b hours 1 worth 1;dawn (date=1)*11;dusk 12+(date=1);");
            hours(z, 12);
            due(z.spread(0, 23), 1);
            due(z.spread(0, 24), 3);
        });
        sentence("NONE if one can't be.", () -> {
            HingeTown x = Edges.busy();
            for (int p : NO_PERSONS) due(x.spread(p, 0), NONE);
            for (int n : new int[] {-1, 241, LOW, HIGH}) due(x.spread(0, n), NONE);
        });
        Edges.part("## Promise 31:");
        sentence("WAKE what 0: how many, 1: which, as bits;", () -> {
            HingeTown x = told(CHAIN);
            due(x.wake(0, 4, 0), 4);
            due(x.wake(0, 4, 1), 27);
            due(x.wake(1, 2, 0), 1);
            due(x.wake(1, 2, 1), 2);
        });
        sentence("NONE if it never comes, both are one, or one can't be.", () -> {
            for (int what = 0; what < 2; what++) {
                due(told(DAY_DAY + "person c at 0;meet a c hours 1 worth 1;").wake(0, 1, what), NONE);
                due(told(DAY_DAY).wake(0, 1, what), NONE);
                HingeTown x = Edges.busy();
                for (int p = 0; p < 3; p++) due(x.wake(p, p, what), NONE);
                for (int p : NO_PERSONS) {
                    due(x.wake(p, 0, what), NONE);
                    due(x.wake(0, p, what), NONE);
                }
            }
            for (int what : NOT_TWO) due(Edges.busy().wake(0, 1, what), NONE);
        });
        Edges.part("## Promise 32:");
        sentence("ODDS the upper part (0), the lower part (1), in lowest terms (0 of 1);", () -> {
            int[][] all = {{50, 50, 1, 4}, {0, 100, 0, 1}, {100, 100, 1, 1}, {25, 40, 1, 10}, {33, 77, 2541, 10000}, {75, 100, 3, 4}, {2, 5, 1, 1000}};
            for (int[] a : all) {
                HingeTown x = told(DAY_NIGHT + "wakeful a " + a[0] + ";wakeful b " + a[1] + ";meet a b hours 24 worth 1;");
                due(x.odds(0, 0, 0), a[2]);
                due(x.odds(0, 0, 1), a[3]);
            }
        });
        sentence("NONE if one can't be.", () -> {
            HingeTown x = Edges.busy();
            for (int part = 0; part < 2; part++) {
                for (int meet : NO_MEETS) due(x.odds(meet, 0, part), NONE);
                for (int date : NO_DATES) due(x.odds(0, date, part), NONE);
            }
            for (int part : NOT_TWO) due(x.odds(0, 0, part), NONE);
        });
        Edges.part("## Promise 33:");
        sentence("The i-th number of what lies there;", () -> {
            HingeTown x = told("person a at 0;person b at 0 night;person c at 0 hinge;person d at 0;person e at 0 night;person f at 0 hinge;person g at 0 night;");
            x.cut();
            int[] sides = {0, 1, 2, 0, 1, 2, 1};
            for (int i = 0; i < 7; i++) due(x.lies(i), sides[i]);
            x.go(0, 2);
            due(x.lies(0), 0);
            x.rest();
            due(x.lies(0), 2);
        });
        sentence("NONE if there is none such.", () -> {
            HingeTown x = Edges.busy();
            due(x.lies(2), 1);
            for (int i : new int[] {-1, 3, 6, 7, LOW, HIGH}) due(x.lies(i), NONE);
            due(told(DAY_DAY).lies(0), NONE);
            HingeTown y = told("person a at 0;person b at 0;person c at 0;person d at 0;person e at 0;person f at 0;person g at 0;");
            y.cut();
            due(y.lies(6), 0);
            due(y.lies(7), NONE);
        });
    }

    static void all() {
        nothingDone();
        meeting();
        cutting();
        resting();
        shopping();
        posting();
        promisesOfMeets();
        promisesOfHarm();
        promisesOfSides();
        promisesOfLetters();
    }
}
