import java.util.Arrays;
import java.util.List;

/** The text of a town and its faults, sentence by sentence: the terms ahead of ==== 2, promises 1 to 5. */
final class TextEdges {
    private static final int NONE = Edges.NONE;
    private static final String P = "person p at 1;";
    private static final String PQ = "person p at 1;person q at 2;";
    private static final String LINE = "person meet noise wakeful dawn dusk harm date";
    private static final String UNIT = "N date hour loud far (";
    private static final String ONE = UNIT + " not";
    private static final String BEHIND = "+ - * / % < > = and or";

    private static final String[] TOKENS = ("zed p 5 ; ( ) < > = + - * / % " + String.join(" ", Edges.OWN_WORDS)).split(" ");

    private TextEdges() { }

    private static void sentence(String words, Runnable test) {
        Edges.sentence(words, test);
    }

    private static void due(long got, long want) {
        Edges.due(got, want);
    }

    private static void bad(int fault, String marked) {
        Edges.bad(fault, marked);
    }

    private static HingeTown good(String text) {
        return Edges.good(text);
    }

    private static HingeTown told(String text) {
        return Check.told(text);
    }

    private static int dawn(String formula) {
        return good("dawn " + formula + ";").light(0, 0);
    }

    private static String sum(int units) {
        return "1" + "+1".repeat(units - 1);
    }

    private static boolean mayStand(String token, List<String> kinds) {
        boolean name = token.equals("zed") || token.equals("p");
        return kinds.contains(name ? "NAME" : token.equals("5") ? "N" : token);
    }

    /**
     * Each slot is what stands there in this line, and all kinds that could: these are no fault 2,
     * every token of another kind, and the end, is, whatever the line would have behind it.
     */
    private static void slots(String ahead, String... slots) {
        String text = ahead;
        for (int i = 0; i < slots.length; i++) {
            List<String> kinds = Arrays.asList(slots[i].split(" "));
            List<String> may = kinds.subList(1, kinds.size());
            for (String token : TOKENS) {
                if (mayStand(token, may)) Edges.mayStand(text + " ^" + token);
                else bad(2, text + " ^" + token);
            }
            if (i > 0) bad(2, text + "^");
            text += " " + kinds.get(0);
        }
        good(text);
    }

    private static void size() {
        Edges.part("## Terms");
        sentence("A TOWN is a text of at most 1,600 bytes", () -> {
            due(good("person p at 1;" + " ".repeat(1586)).about(0), 1);
            due(good(" ".repeat(1591) + "date 364;").about(4), 364);
            bad(2, " ".repeat(1592) + "date 364^");
            bad(1, " ".repeat(1599) + "^$");
            HingeTown x = new HingeTown();
            for (int i = 0; i < 80; i++) x.feed(0x20202020, 0x20202020, 0x20202020, 0x20202020, 0x20202020);
            due(x.feed(0x24202020, 0, 0, 0, 0), NONE);
            due(x.town(), 0);
        });
        sentence("(empty at first)", () -> {
            HingeTown x = new HingeTown();
            for (int what = 0; what < 3; what++) due(x.about(what), 0);
            due(x.about(11), 0);
            due(x.town(), 0);
        });
        sentence("town = {line}.", () -> {
            good("");
            good(" ");
            good("\n\n \n");
            good("date 1;");
            good("date 1;dawn 2;");
            due(good("date 3;harm 1;dusk 2;dawn 1;" + PQ + "wakeful p 1;noise p at 1 loud 1;meet p q hours 1 worth 1;").about(0), 2);
            bad(2, "date 1;^;");
        });
    }

    private static void lines() {
        sentence("line = person NAME at N [night | hinge] ;", () -> {
            slots(P, "person " + LINE, "q NAME", "at at", "1 N", "; ; night hinge");
            slots(P, "person " + LINE, "q NAME", "at at", "1 N", "night night hinge ;", "; ;");
            slots("", "person " + LINE, "q NAME", "at at", "1 N", "hinge night hinge ;", "; ;");
        });
        sentence("meet NAME NAME hours N worth N ;", () ->
            slots(PQ, "meet " + LINE, "p NAME", "q NAME", "hours hours", "1 N", "worth worth", "1 N", "; ;"));
        sentence("noise NAME at N loud N ;", () ->
            slots(PQ, "noise " + LINE, "p NAME", "at at", "1 N", "loud loud", "1 N", "; ;"));
        sentence("wakeful NAME N ;", () -> slots(PQ, "wakeful " + LINE, "p NAME", "1 N", "; ;"));
        sentence("dawn e ;", () -> slots(P, "dawn " + LINE, "1 " + ONE, "; ; " + BEHIND));
        sentence("dusk e ;", () -> slots(P, "dusk " + LINE, "1 " + ONE, "; ; " + BEHIND));
        sentence("harm e ;", () -> slots(P, "harm " + LINE, "1 " + ONE, "; ; " + BEHIND));
        sentence("date N ;.", () -> slots(P, "date " + LINE, "1 N", "; ;"));
    }

    private static void formulas() {
        sentence("e = both {or both}.", () -> {
            slots("dawn", "1 " + ONE, "or ; " + BEHIND, "0 " + ONE, "or ; " + BEHIND, "not " + ONE, "1 " + ONE, "; ; " + BEHIND);
            due(dawn("0 or 0"), 0);
            due(dawn("0 or 0 or 3"), 1);
            due(dawn("1 or 0 and 0"), 1);
            due(dawn("0 and 0 or 1"), 1);
        });
        sentence("both = one {and one}.", () -> {
            slots("dusk", "1 " + ONE, "and ; " + BEHIND, "0 " + ONE, "and ; " + BEHIND, "not " + ONE, "1 " + ONE, "; ; " + BEHIND);
            due(dawn("1 and 2 and 0"), 0);
            due(dawn("1 and 2 and 3"), 1);
            due(dawn("not 0 and 0"), 0);
            due(dawn("0 and not 0"), 0);
        });
        sentence("one = not one | sum [(< | > | =) sum].", () -> {
            String last = "; ; + - * / % and or";
            for (String sign : "< > =".split(" ")) slots("harm", "not " + ONE, "not " + ONE, "1 " + ONE, sign + " ; " + BEHIND, "2 " + UNIT, last);
            due(dawn("not 1<2"), 0);
            due(dawn("not 2<1"), 1);
            due(dawn("not 0=0"), 0);
            due(dawn("1<2 and 2>1 and 3=3"), 1);
            due(dawn("2+2<5*1"), 1);
            due(dawn("(1<2)<1"), 0);
        });
        sentence("sum = term {(+ | -) term}.", () -> {
            slots("dawn", "1 " + ONE, "+ ; " + BEHIND, "2 " + UNIT, "- ; " + BEHIND, "3 " + UNIT, "; ; " + BEHIND);
            due(dawn("9-3-2"), 4);
            due(dawn("9-3+2"), 8);
            due(dawn("1+2*3"), 7);
            due(dawn("2*3+1"), 7);
        });
        sentence("term = unit {(* | / | %) unit}.", () -> {
            slots("dawn", "1 " + ONE, "* ; " + BEHIND, "2 " + UNIT, "/ ; " + BEHIND, "3 " + UNIT, "% ; " + BEHIND, "3 " + UNIT, "; ; " + BEHIND);
            due(dawn("8/2/2"), 2);
            due(dawn("8/2*2"), 8);
            due(dawn("9%5%3"), 1);
            due(dawn("2*9%5"), 3);
        });
        sentence("unit = N | date | hour | loud | far | ( e ).", () -> {
            slots("dawn", "( " + ONE, "1 " + ONE, ") ) " + BEHIND, "; ; " + BEHIND);
            slots("harm", "( " + ONE, "not " + ONE, "date " + ONE, "< ) " + BEHIND, "far " + UNIT, ") ) + - * / % and or", "; ; " + BEHIND);
            for (String unit : "0,9999,date,hour,loud,far,(1),((date)),(1 or(0))".split(",")) good("harm " + unit + ";");
            bad(2, "dawn 1^)");
            bad(2, "dawn (1)^)");
            bad(2, "dawn ((1)^;");
            due(dawn("(1+2)*3"), 9);
        });
    }

    private static boolean isSign(int b) {
        return ";()<>=+-*/%".indexOf(b) >= 0;
    }

    private static void tokens() {
        sentence("words (a .. z, 8 at most)", () -> {
            for (String name : "a z az abcdefgh zzzzzzzz".split(" ")) good("person " + name + " at 1;");
            for (String word : "abcdefghi zzzzzzzzz personxyz abcdefghijklmnopqrstuvwxyz".split(" ")) {
                bad(1, "person ^" + word + " at 1;");
                bad(1, "^" + word);
                bad(1, "dawn ^" + word + ";");
            }
            bad(1, "^" + "a".repeat(1600));
            bad(1, "person p^`");
            bad(1, "person p^{");
            bad(1, "person p^P at 1;");
            due(good("person abcdefgh at 1;person abcdefgi at 2;person bbcdefgh at 3;person abcdefg at 4;").about(0), 4);
        });
        sentence("N (1 to 4 digits)", () -> {
            due(good("date 7;").about(4), 7);
            due(good("date 07;").about(4), 7);
            due(good("date 364;").about(4), 364);
            due(good("date 0364;").about(4), 364);
            due(dawn("9999-9990"), 9);
            bad(1, "date ^00364;");
            bad(1, "dawn ^10000;");
            bad(1, "dawn ^00000;");
            bad(1, "dawn ^" + "1".repeat(1595));
            bad(1, "date ^:");
        });
        sentence("signs ; ( ) < > = + - * / %;", () -> {
            for (int b = 0; b < 256; b++) {
                String text = String.valueOf((char) b);
                boolean token = b >= 'a' && b <= 'z' || b >= '0' && b <= '9' || isSign(b);
                if (b == 32 || b == 10) good(text);
                else if (b != '^') bad(token ? 2 : 1, "^" + text);
                if (!token && b != 32 && b != 10 && b != '^') bad(1, "dawn 1^" + text + "1;");
            }
            HingeTown x = new HingeTown();
            Check.tell(x, "^");
            due(x.fault(0), 1);
        });
        sentence("blanks (32, 10) part them or not;", () -> {
            good(" \n person\n\np at\n1 \n;\n ");
            good("person p at1;");
            good("dawn(1)and(2)or not(3)<4;dusk date+hour;");
            due(dawn("1\n+\n2"), 3);
            for (int b : new int[] {0, 9, 11, 12, 13, 31, 33, 127, 128, 160, 255}) {
                bad(1, "person^" + (char) b + "p at 1;");
                bad(1, P + "^" + (char) b);
            }
        });
        sentence("each is as long as can be;", () -> {
            bad(2, "^personp at 1;");
            bad(2, "^dateline 1;");
            bad(2, "person ^at1;");
            bad(2, "harm ^loudfar;");
            bad(2, "dawn ^nothour;");
            bad(2, "dawn 1 ^0;");
            due(dawn("10"), 10);
            due(good("person atx at 1;person nighty at 2;").about(0), 2);
        });
        sentence("no letter directly behind an N.", () -> {
            bad(1, "date ^1a;");
            bad(1, "date ^364z;");
            bad(1, "person p at ^1night;");
            bad(1, "dawn 1 and ^2or 3;");
            bad(2, "date 1 ^a;");
            bad(2, "date 1\n^z;");
            bad(1, "date 1^`");
            bad(1, "date 1^{");
            bad(2, "date 1^(");
            good("person p at 1 night;");
        });
        sentence("Words that stand for themselves here are no NAMES.", () -> {
            for (String word : Edges.OWN_WORDS) {
                bad(2, "person ^" + word + " at 1;");
                bad(2, PQ + "meet p ^" + word + " hours 1 worth 1;");
                bad(2, PQ + "wakeful ^" + word + " 1;");
                bad(2, PQ + "noise ^" + word + " at 1 loud 1;");
                if (word.length() < 8) good("person " + word + "x at 1;");
                good("person x" + word.substring(1) + " at 1;");
            }
            for (String word : "line town e both one sum term unit name n day quiet".split(" ")) good("person " + word + " at 1;");
        });
    }

    private static String persons(int n) {
        String text = "";
        for (int i = 0; i < n; i++) text += "person " + (char) ('p' + i) + " at " + i + ";";
        return text;
    }

    private static String meets(int n) {
        String text = "";
        for (int i = 0; i < n; i++) {
            text += "meet " + (char) ('p' + i % 7) + " " + (char) ('p' + (i + 1 + i / 7) % 7) + " hours 1 worth 1;";
        }
        return text;
    }

    private static String noises(int n) {
        String text = "";
        for (int i = 0; i < n; i++) text += "noise p at " + i + " loud 1;";
        return text;
    }

    /** As many of each sort as there can be. */
    private static final String FULL = persons(7).replace("at 3", "at 3 night").replace("at 5", "at 9 hinge") + meets(10)
        + noises(4) + noises(8).substring(noises(4).length()).replace(" p ", " s ")
        + "wakeful p 50;wakeful v 100;dawn " + sum(20) + "-14;dusk 17+date%3;harm loud*9-far+date%2;date 364;";

    private static void limits() {
        sentence("At most 7 PERSONS", () -> {
            for (int n = 0; n <= 7; n++) due(good(persons(n)).about(0), n);
            bad(2, persons(7) + "^person w at 1;");
            due(good(persons(7) + "date 1;").about(0), 7);
        });
        sentence("(at a house 0 .. 9;", () -> {
            due(good("person p at 0;").person(0, 0), 0);
            due(good("person p at 9;").person(0, 0), 9);
            due(good("person p at 0009;").person(0, 0), 9);
            bad(4, "person p at ^10;");
            bad(4, "person p at ^9999;");
            bad(2, "person p at ^-1;");
        });
        sentence("on the side of the DAY, if not told)", () -> {
            HingeTown x = good("person p at 1;person q at 1 night;person r at 1 hinge;person s at 1;");
            int[] sides = {0, 1, 2, 0};
            for (int p = 0; p < 4; p++) due(x.person(p, 1), sides[p]);
            bad(2, "person p at 1 ^day;");
        });
        sentence("10 MEETS", () -> {
            for (int n = 0; n <= 10; n++) due(good(persons(7) + meets(n)).about(1), n);
            bad(2, persons(7) + meets(10) + "^meet r v hours 1 worth 1;");
            due(good(persons(7) + meets(9) + "meet r v hours 1 worth 1;").about(1), 10);
            HingeTown x = good(persons(7) + meets(10) + "dawn 0;");
            due(x.can(0), 1023);
            due(x.bliss(0), 10);
            due(x.joy(6, 0), 2);
            due(x.cut(), 10);
            due(x.rest(), 0);
            due(x.post(0, 6), 1);
            due(x.spread(3, 1), 127);
            due(x.wake(0, 6, 1), 0);
            due(x.lonely(0), 0);
            Edges.hours(x, 24);
            for (int m = 0; m < 10; m++) due(x.meet(m, 5), 1);
        });
        sentence("(of two unlike PERSONS told ahead, each two once in whichever order;", () -> {
            bad(3, PQ + "meet p ^p hours 1 worth 1;");
            bad(3, PQ + "meet q ^q hours 1 worth 1;");
            bad(5, "meet ^p q hours 1 worth 1;" + PQ);
            bad(5, P + "meet p ^q hours 1 worth 1;person q at 2;");
            bad(3, PQ + "meet p q hours 1 worth 1;meet p ^q hours 2 worth 2;");
            bad(3, PQ + "meet p q hours 1 worth 1;meet q ^p hours 2 worth 2;");
            bad(3, PQ + "meet q p hours 1 worth 1;meet p ^q hours 2 worth 2;");
            good(persons(3) + "meet p q hours 1 worth 1;meet r q hours 1 worth 1;meet p r hours 1 worth 1;");
        });
        sentence("1 .. 24 hours, worth 1 .. 99)", () -> {
            HingeTown x = good(persons(3) + "meet p q hours 1 worth 99;meet r q hours 24 worth 1;");
            due(x.meet(0, 2), 1);
            due(x.meet(0, 3), 99);
            due(x.meet(1, 2), 24);
            due(x.meet(1, 3), 1);
            bad(4, PQ + "meet p q hours ^0 worth 1;");
            bad(4, PQ + "meet p q hours ^25 worth 1;");
            bad(4, PQ + "meet p q hours 24 worth ^0;");
            bad(4, PQ + "meet p q hours 1 worth ^100;");
        });
        sentence("8 NOISES", () -> {
            for (int n = 0; n <= 8; n++) due(good(P + noises(n)).about(2), n);
            bad(2, P + noises(8) + "^noise p at 8 loud 1;");
            HingeTown x = good(PQ + noises(8).replace("loud 1", "loud 2") + "dawn 0;");
            x.go(1, 1);
            due(x.harmed(1, 0), 8);
            due(x.loudest(0, 1), 8);
            due(x.bliss(0), -8);
            due(x.cut(), 0);
            for (int hour = 0; hour < 9; hour++) due(x.hour(), hour < 8 ? 1 : 0);
        });
        sentence("(of a PERSON told ahead, at an HOUR 0 .. 23, each PERSON once at an HOUR;", () -> {
            bad(5, "noise ^p at 1 loud 1;" + P);
            due(good(P + "noise p at 0 loud 7;").noise(0, 0), 7);
            due(good(P + "noise p at 23 loud 7;").noise(0, 23), 7);
            bad(4, P + "noise p at ^24 loud 7;");
            bad(2, P + "noise p at ^-1 loud 7;");
            bad(3, P + "noise p at 5 loud 7;noise p at ^5 loud 8;");
            good(PQ + "noise p at 5 loud 7;noise q at 5 loud 7;noise p at 6 loud 7;");
        });
        sentence("1 .. 20 loud)", () -> {
            due(good(P + "noise p at 3 loud 1;").noise(0, 3), 1);
            due(good(P + "noise p at 3 loud 20;").noise(0, 3), 20);
            bad(4, P + "noise p at 3 loud ^0;");
            bad(4, P + "noise p at 3 loud ^21;");
        });
        sentence("numbered as told, each sort by itself", () -> {
            HingeTown x = good("person q at 8;noise q at 1 loud 3;person p at 7;meet p q hours 5 worth 1;noise p at 1 loud 4;"
                + "person a at 6;meet q a hours 6 worth 1;");
            for (int p = 0; p < 3; p++) due(x.person(p, 0), 8 - p);
            due(x.meet(0, 0), 1);
            due(x.meet(0, 1), 0);
            due(x.meet(1, 0), 0);
            due(x.meet(1, 1), 2);
            due(x.meet(1, 2), 6);
            due(x.noise(0, 1), 3);
            due(x.noise(1, 1), 4);
            HingeTown y = good(persons(5) + "noise t at 3 loud 1;meet s t hours 1 worth 1;noise p at 3 loud 2;wakeful p 3;noise r at 3 loud 3;");
            due(y.about(0), 5);
            due(y.about(1), 1);
            due(y.about(2), 3);
            int[] louds = {2, 0, 3, 0, 1};
            for (int p = 0; p < 5; p++) due(y.noise(p, 3), louds[p]);
        });
        sentence("wakeful (a PERSON told ahead, each once; 0 .. 100 of 100; 0 if not told)", () -> {
            bad(5, "wakeful ^p 1;" + P);
            bad(3, PQ + "wakeful p 1;wakeful ^p 1;");
            bad(3, PQ + "wakeful p 0;wakeful q 0;wakeful ^p 0;");
            HingeTown x = good(persons(3) + "wakeful q 100;wakeful p 0;");
            due(x.person(0, 5), 0);
            due(x.person(1, 5), 100);
            due(x.person(2, 5), 0);
            bad(4, P + "wakeful p ^101;");
            due(good(persons(7) + "wakeful p 1;wakeful q 1;wakeful r 1;wakeful s 1;wakeful t 1;wakeful u 1;wakeful v 1;").person(6, 5), 1);
        });
        sentence("dawn, dusk, harm, date (the first one, 0 .. 364; 0) once each", () -> {
            due(good("date 0;").about(4), 0);
            due(good("date 364;").about(4), 364);
            due(good("").about(4), 0);
            bad(4, "date ^365;");
            for (String line : "dawn dusk harm date".split(" ")) {
                good(line + " 0;");
                bad(2, line + " 0;^" + line + " 0;");
                bad(2, line + " 0;" + P + "^" + line + " 1;");
            }
            good("dawn 1;dusk 1;harm 1;date 1;");
        });
        sentence("60 units in all", () -> {
            due(good("dawn " + sum(30) + ";harm " + sum(30) + ";").about(11), 60);
            due(good("dawn " + sum(20) + ";dusk " + sum(20) + ";harm " + sum(20) + ";").about(11), 60);
            bad(2, "dawn " + sum(20) + ";dusk " + sum(20) + ";harm " + sum(20) + "+^1;");
            bad(2, "dawn " + sum(30) + ";harm " + sum(30) + ";dusk ^1;");
            bad(2, "dawn " + sum(30) + ";harm " + sum(30) + ";dusk ^(1);");
            HingeTown x = good("dawn " + sum(30) + ";harm " + sum(30) + ";");
            due(Check.tell(x, "dusk " + sum(30) + ";harm " + sum(30) + ";dawn 1;"), NONE);
            due(Check.tell(x, "dusk " + sum(30) + ";harm " + sum(30) + ";"), 0);
        });
        sentence("30 in one e", () -> {
            for (String line : "dawn dusk harm".split(" ")) {
                due(good(line + " " + sum(30) + ";").about(11), 30);
                bad(2, line + " " + sum(30) + "+^1;");
                due(good(line + " (" + sum(29) + ");").about(11), 30);
                bad(2, line + " (" + sum(29) + "+^1);");
            }
            due(good("dawn " + sum(30) + ";dusk " + sum(30) + ";").about(11), 60);
            bad(2, "dusk " + sum(29) + ";harm " + sum(30) + "+^1;");
            due(dawn("0" + "+0".repeat(28) + "+9"), 9);
            due(dawn("not not 7 and ".repeat(29) + "not not 7"), 1);
            due(dawn("not not 7 and ".repeat(29) + "not not 0"), 0);
            due(dawn("0" + " or 0".repeat(28) + " or 9"), 1);
            due(dawn("1" + " and 1".repeat(28) + " and 0"), 0);
        });
        sentence("(a unit ( e ), or a one behind not, within 6 others at most).", TextEdges::depths);
    }

    /** Every way to go seven deep with parentheses and nots is fine, and an eighth of either is not. */
    private static void depths() {
        for (int way = 0; way < 128; way++) {
            String open = "";
            String close = "";
            for (int i = 0; i < 7; i++) {
                boolean not = (way >> i & 1) == 1;
                open += not ? "not " : "(";
                close += not ? "" : ")";
            }
            good("harm " + open + "loud" + close + ";");
            bad(2, "harm " + open + "^(loud)" + close + ";");
            bad(2, "harm " + open + "^not loud" + close + ";");
        }
        String seven = "(".repeat(7) + "1" + ")".repeat(7);
        due(dawn(seven + "+" + seven), 2);
        due(dawn("not ".repeat(7) + "0 and " + "not ".repeat(7) + "0"), 1);
        due(dawn("not " + "(".repeat(6) + "1" + ")".repeat(6) + "<" + "(".repeat(6) + "1" + ")".repeat(6)), 1);
        bad(2, "dawn not 1<" + "(".repeat(6) + "^(1)" + ")".repeat(6) + ";");
        due(dawn("not 1 or " + seven), 1);
    }

    private static void faults() {
        sentence("the first by its place (bytes from 0; the end: the text's length)", () -> {
            bad(1, "^$person p at 10;");
            bad(4, "person p at ^10;person p at $;");
            bad(4, "date ^365;meet a b$");
            bad(5, "wakeful ^p 101;");
            bad(5, "meet ^p p hours 0 worth 0;");
            bad(2, "date^");
            bad(2, "date   ^");
            bad(2, "date 1^");
            bad(2, "date 1 \n^");
            bad(2, " ".repeat(1594) + "date 1^");
            bad(2, " ".repeat(1590) + "date 1    ^");
        });
        sentence("at one place the least", () -> {
            bad(1, "date ^36500;");
            bad(1, "person p at ^1000x;");
            bad(1, "dawn " + sum(30) + "+^$");
            bad(1, "dawn " + sum(30) + "+^12345;");
            bad(1, "dawn " + "(".repeat(7) + "^[");
            bad(1, PQ + "meet p ^abcdefghi hours 1 worth 1;");
            bad(2, P + "meet p ^hours 1 worth 1;");
            bad(2, P + "wakeful ^at 101;");
            bad(1, persons(7) + "^personxyz");
        });
        sentence("1 no TOKEN;", () -> {
            for (String no : "$ # A Z _ , . ! ? [ ] { } | ~ & ' : @ abcdefghi 12345 1a".split(" ")) {
                bad(1, "^" + no);
                bad(1, "person ^" + no);
                bad(1, "person p ^" + no);
                bad(1, "person p at ^" + no);
                bad(1, "person p at 1 ^" + no);
                bad(1, "person p at 1 night ^" + no);
                bad(1, P + "^" + no);
                bad(1, "dawn ^" + no);
                bad(1, "dawn 1 ^" + no);
                bad(1, "dawn 1+^" + no);
                bad(1, "dawn 1<^" + no);
                bad(1, "dawn not ^" + no);
                bad(1, "dawn (1 ^" + no);
                bad(1, "date ^" + no);
                bad(1, PQ + "meet p ^" + no);
                bad(1, PQ + "meet p q ^" + no);
                bad(1, PQ + "noise p at ^" + no);
                bad(1, PQ + "wakeful p ^" + no);
            }
        });
        sentence("2 one that can't stand there", () -> {
            bad(2, "^p");
            bad(2, "^at");
            bad(2, "^5");
            bad(2, "^;");
            bad(2, "^hour");
            bad(2, P + "^night;");
            bad(2, "person ^;");
            bad(2, "person p at 1 night ^night;");
            bad(2, "dawn 1 ^1;");
        });
        sentence("(one of a sort too many or a second time: at the line's first word;", () -> {
            bad(2, persons(7) + " \n ^person");
            bad(2, persons(7) + "^person p at 10;");
            bad(2, persons(7) + meets(10) + "^meet zed zed");
            bad(2, P + noises(8) + "^noise zed at 24");
            bad(2, P + noises(8) + "^noise p at 3 loud 1;");
            for (String line : "dawn dusk harm date".split(" ")) {
                bad(2, line + " 1;^" + line);
                bad(2, line + " 1;" + P + "\n^" + line + " $");
            }
        });
        sentence("a unit too many, what is within 7 others: at its first TOKEN, or the not)", () -> {
            bad(2, "harm " + sum(30) + "*^far;");
            bad(2, "harm " + sum(30) + "+ \n^( 1 );");
            bad(2, "harm " + sum(29) + "+(^(1));");
            bad(2, "harm " + sum(30) + " or not ^1;");
            bad(2, "harm " + "(".repeat(7) + "1+^(1)");
            bad(2, "harm " + "(".repeat(7) + " ^not 1");
            bad(2, "harm " + "not ".repeat(7) + "1<^(1);");
        });
        sentence("3 a NAME told already", () -> {
            bad(3, P + "person ^p at 1;");
            bad(3, persons(6) + "person ^u at 9;");
            bad(3, persons(6) + "person ^p 1;");
            bad(3, "person abcdefgh at 1;person ^abcdefgh at 2;");
            good("person abcdefgh at 1;person abcdefg at 1;person aabcdefg at 1;");
        });
        sentence("two of a meet alike or told already (at the second NAME)", () -> {
            bad(3, P + "meet p ^p;");
            bad(3, PQ + "meet q ^q hours 0 worth 0;");
            bad(3, PQ + "meet p q hours 1 worth 1;meet  q\n^p;");
            bad(3, persons(7) + meets(9) + "meet q ^p hours 1 worth 1;");
        });
        sentence("a noise of a PERSON at an HOUR told already (at the HOUR)", () -> {
            bad(3, P + "noise p at 0 loud 1;noise p at ^0 loud 1;");
            bad(3, P + "noise p at 23 loud 1;noise p at ^0023;");
            bad(3, PQ + "noise p at 7 loud 1;noise q at 7 loud 1;noise p at ^7 loud 0;");
        });
        sentence("a wakeful one told already (at the PERSON)", () -> {
            bad(3, P + "wakeful p 5;wakeful ^p 101;");
            bad(3, P + "wakeful p 0;wakeful ^p");
        });
        sentence("4 a number that can't be", () -> {
            bad(4, "person p at ^10");
            bad(4, PQ + "meet p q hours ^0");
            bad(4, PQ + "meet p q hours ^25");
            bad(4, PQ + "meet p q hours 1 worth ^0");
            bad(4, PQ + "meet p q hours 1 worth ^100");
            bad(4, P + "noise p at ^24");
            bad(4, P + "noise p at 1 loud ^0");
            bad(4, P + "noise p at 1 loud ^21");
            bad(4, P + "wakeful p ^101");
            bad(4, "date ^365");
            for (String line : "person p at ^,date ^,wakeful p ^,noise p at ^,meet p q hours ^,meet p q hours 1 worth ^".split(",")) {
                bad(4, (line.startsWith("person") ? "" : PQ) + line + "9999;");
            }
            good("dawn 9999;dusk 0;harm 9999;");
        });
        sentence("5 a NAME that no PERSON has.", () -> {
            bad(5, "meet ^zed");
            bad(5, P + "meet ^zed p");
            bad(5, P + "meet p ^zed");
            bad(5, P + "noise ^zed");
            bad(5, P + "wakeful ^zed");
            bad(5, P + "wakeful ^pp 1;");
            bad(5, "person abcdefgh at 1;wakeful ^abcdefg 1;");
        });
    }

    private static void newAndTape() {
        Edges.part("The constants:");
        sentence("The constants: `NONE = -1`: There is none.", () -> {
            try {
                due(HingeTown.class.getField("NONE").getInt(null), -1);
            } catch (ReflectiveOperationException e) {
                due(0, -1);
            }
        });
        Edges.part("## Promise 1:");
        sentence("An empty TOWN.", () -> {
            HingeTown x = new HingeTown();
            for (int what = 0; what <= 12; what++) due(x.about(what), 0);
            due(x.fault(0), 0);
            due(x.fault(1), NONE);
            due(x.person(0, 0), NONE);
            due(x.meet(0, 0), NONE);
            Edges.due(x.undo() || x.redo() || x.untell(0), false);
            for (int box = 0; box < 3; box++) due(x.back(box), NONE);
        });
        Edges.part("## Promise 2:");
        sentence("Twenty bytes come behind those on the TAPE, of each number the highest first:", () -> {
            HingeTown x = new HingeTown();
            // "person abcdefgh at 9", " night;wakeful abcde", "fgh 100;date 364;".
            x.feed(0x70657273, 0x6f6e2061, 0x62636465, 0x66676820, 0x61742039);
            x.feed(0x206e6967, 0x68743b77, 0x616b6566, 0x756c2061, 0x62636465);
            x.feed(0x66676820, 0x3130303b, 0x64617465, 0x20333634, 0x3b202020);
            due(x.town(), 1);
            due(x.person(0, 0), 9);
            due(x.person(0, 1), 1);
            due(x.person(0, 5), 100);
            due(x.about(4), 364);
            for (int i = 0; i < 20; i++) {
                int[] five = {0x20202020, 0x20202020, 0x20202020, 0x20202020, 0x20202020};
                five[i / 4] ^= 0xdf << 24 - i % 4 * 8;
                x.feed(five[0], five[1], five[2], five[3], five[4]);
                x.town();
                due(x.fault(0), 1);
                due(x.fault(1), i);
            }
        });
        sentence("how many there are;", () -> {
            HingeTown x = new HingeTown();
            for (int i = 1; i <= 80; i++) due(x.feed(Edges.LOW, Edges.HIGH, -1, 0, i), 20 * i);
            x.end(3);
            due(x.feed(0, 0, 0, 0, 0), 23);
        });
        sentence("NONE, and nothing comes, if there would be more than 1,600.", () -> {
            for (int length : new int[] {1581, 1582, 1599, 1600}) {
                HingeTown x = new HingeTown();
                for (int i = 0; i < 80; i++) x.feed(0x20202020, 0x20202020, 0x20202020, 0x20202020, 0x20202020);
                x.end(length);
                due(x.feed(0, 0, 0, 0, 0), NONE);
                due(x.about(10), length);
                due(x.town(), 0);
            }
            HingeTown y = new HingeTown();
            for (int i = 0; i < 80; i++) y.feed(0, 0, 0, 0, 0);
            y.end(1580);
            due(y.feed(0, 0, 0, 0, 0), 1600);
        });
        Edges.part("## Promise 3:");
        sentence("The TAPE has its first n bytes: n;", () -> {
            HingeTown x = new HingeTown();
            due(x.end(0), 0);
            x.feed(0x64617465, 0x2033313b, 0, 0, 0);
            due(x.end(20), 20);
            due(x.end(8), 8);
            due(x.about(10), 8);
            due(x.town(), 0);
            due(x.about(4), 31);
            x.feed(0x64617465, 0x2033313b, 0, 0, 0);
            due(x.end(0), 0);
            due(x.town(), 0);
            due(x.about(4), 0);
        });
        sentence("NONE, doing nothing, if it has not so many, or n is below 0.", () -> {
            HingeTown x = new HingeTown();
            due(x.end(1), NONE);
            due(x.end(-1), NONE);
            x.feed(0, 0, 0, 0, 0);
            due(x.end(21), NONE);
            x.end(7);
            due(x.end(8), NONE);
            due(x.about(10), 7);
            for (int n : new int[] {22, 1600, Edges.HIGH, -1, Edges.LOW}) Edges.refused(NONE, y -> y.end(n));
        });
    }

    private static void towns() {
        Edges.part("## Promise 4:");
        sentence("The TAPE (empty then) is the TOWN", () -> {
            HingeTown x = new HingeTown();
            Check.tell(x, "date 5;");
            due(x.about(10), 0);
            due(x.about(4), 5);
            due(x.town(), 0);
            due(x.about(4), 0);
            Check.tell(x, "date 5");
            due(x.about(10), 0);
        });
        sentence("(all as told,", () -> {
            HingeTown x = Edges.busy();
            due(Check.tell(x, Edges.BUSY), 3);
            int[][] persons = {{0, 0, 0, 0, 0, 50, 0}, {2, 1, 0, 1, 0, 0, 0}, {3, 2, 0, 0, 0, 0, 0}};
            for (int p = 0; p < 3; p++) for (int w = 0; w < 7; w++) due(x.person(p, w), persons[p][w]);
            for (int m = 0; m < 3; m++) for (int w = 4; w < 6; w++) due(x.meet(m, w), 0);
            due(x.about(4), 98);
            due(x.light(100, 1), 20);
            Check.tell(x, "person a at 1;person b at 1;");
            due(x.about(1) + x.about(2) + x.about(11), 0);
            due(x.about(4), 0);
            due(x.light(100, 1), 18);
            due(x.person(0, 5), 0);
            String[] texts = {FULL, Edges.BUSY, "", PQ + "meet p q hours 3 worth 4;noise q at 1 loud 2;dawn date;", FULL + "$", PQ + "meet q"};
            for (String last : texts) {
                for (int first = 0; first < 6; first++) {
                    String[] ahead = {texts[first], texts[(first + 1) % 6], texts[(first + 2) % 6]};
                    if (!last.endsWith("$") && !last.endsWith("q")) Edges.alike(() -> toldBehind(ahead, last), () -> told(last));
                }
            }
        });
        sentence("HOUR 0,", () -> due(anew().about(3), 0));
        sentence("nobody QUIET,", () -> due(anew().about(5), 0));
        sentence("no ACTS are kept,", () -> {
            HingeTown x = anew();
            due(x.about(6), 0);
            due(x.about(7), 0);
            Edges.due(x.undo(), false);
            Edges.due(x.redo(), false);
            due(x.about(3), 0);
        });
        sentence("no LIGHTS,", () -> {
            HingeTown x = anew();
            due(x.about(8), 0);
            due(x.fits(5), 8);
            Edges.due(x.untell(0), false);
            due(x.lit(0, 0, true), 0);
        });
        sentence("nothing lies there,", () -> Edges.lying(anew()));
        sentence("BOXES are empty then;", () -> {
            for (int box = 0; box < 3; box++) {
                HingeTown x = Edges.busy();
                x.image(box);
                Check.tell(x, Edges.BUSY);
                due(x.back(box), NONE);
            }
        });
        sentence("the TIME stays):", () -> {
            HingeTown x = anew();
            due(x.about(9), 5);
            due(x.later(1), 6);
        });
        sentence("how many PERSONS;", () -> {
            HingeTown x = new HingeTown();
            for (int n = 7; n >= 0; n--) due(Check.tell(x, persons(n)), n);
        });
        sentence("NONE: a FAULT (all stays).", () -> {
            for (String text : new String[] {"$", "person p at 1;person q at 2;date 3", "date 365;", persons(7) + "person w at 1;", "meet a b"}) {
                HingeTown x = Edges.busy();
                due(Check.tell(x, text), NONE);
                Edges.changesNothingBut(y -> Check.tell(y, text), y -> y.end(0));
            }
        });
        Edges.part("## Promise 5:");
        sentence("Of the latest town() what 0: its FAULT (0), 1: its place (NONE).", () -> {
            HingeTown x = new HingeTown();
            due(x.fault(0), 0);
            due(x.fault(1), NONE);
            String[] texts = {"$", "  person", "person p at 1; person p", "date 365;", "meet a"};
            int[] places = {0, 8, 22, 5, 5};
            for (int i = 0; i < 5; i++) {
                Check.tell(x, texts[i]);
                due(x.fault(0), i + 1);
                due(x.fault(1), places[i]);
            }
            x.hour();
            due(x.fault(0), 5);
            x.town();
            due(x.fault(0), 0);
            due(x.fault(1), NONE);
        });
        sentence("NONE for another what.", () -> {
            HingeTown x = new HingeTown();
            Check.tell(x, "$");
            for (int what : new int[] {2, -1, 3, Edges.LOW, Edges.HIGH}) due(x.fault(what), NONE);
        });
    }

    /** What earlier texts told, with or without a fault, must not be seen any more. */
    private static HingeTown toldBehind(String[] ahead, String last) {
        HingeTown x = new HingeTown();
        for (String text : ahead) Check.tell(x, text);
        Check.tell(x, last);
        return x;
    }

    private static HingeTown anew() {
        HingeTown x = Edges.busy();
        Check.tell(x, Edges.BUSY);
        return x;
    }

    static void all() {
        size();
        lines();
        formulas();
        tokens();
        limits();
        faults();
        newAndTape();
        towns();
    }
}
