/** Texts of towns, each with the fault that is due and its place: promises 4 and 5 and the terms. */
public final class FaultTests {
    private static final String P = "person p at 1;";
    private static final String PQ = "person p at 1;person q at 2;";
    private static final Check check = new Check();

    /** The place is where the mark ^ stands, which is no part of the text. */
    private static void bad(int fault, String marked) {
        int place = marked.indexOf('^');
        String text = marked.replace("^", "");
        for (String behind : new String[] {"", "x", "9", ";"}) {
            HingeTown x = new HingeTown();
            check.due("town() of " + text, Check.tell(x, text, behind), -1);
            check.due("fault(0) of " + text, x.fault(0), fault);
            check.due("fault(1) of " + text, x.fault(1), place);
            check.due("no persons of " + text, x.about(0), 0);
        }
    }

    private static void good(int persons, String text) {
        HingeTown x = new HingeTown();
        check.due("town() of " + text, Check.tell(x, text), persons);
        check.due("fault(0) of " + text, x.fault(0), 0);
        check.due("fault(1) of " + text, x.fault(1), -1);
    }

    private static String times(int n, String part) {
        return part.repeat(n);
    }

    private static String sum(int units) {
        return "1" + times(units - 1, "+1");
    }

    private static void tokens() {
        good(0, "");
        good(0, " \n \n");
        good(1, "person p at1;");
        good(1, "person\nabcdefgh\nat 0009\nnight\n;");
        good(0, "dawn 1+2*(3)-date%4;date 7;");
        bad(1, "^$");
        bad(1, "  \n^#");
        bad(1, "^A");
        bad(1, "^\t");
        bad(1, "^\u0000");
        bad(1, "person p at 1^{");
        bad(1, "person ^abcdefghi at 1;");
        bad(1, "^personann p at 1;");
        bad(1, "dawn ^12345;");
        bad(1, "dawn ^00001;");
        bad(1, "dawn ^5x;");
        bad(1, "person p at ^1night;");
        bad(1, "date ^365x;");
        bad(2, "^personp at 1;");
        bad(2, "dawn 1 ^2;");
        bad(2, "person p at 1 ^< ;");
        bad(2, "person p at 1^");
        bad(2, "dawn 1234^");
        bad(2, "person abcdefgh^");
        bad(2, "^perso");
    }

    private static void lines() {
        bad(2, "^;");
        bad(2, "^7;");
        bad(2, "^ann;");
        bad(2, "^at;");
        bad(2, "person^");
        bad(2, "person ^;");
        bad(2, "person ^7 at 1;");
        bad(2, "person ^at at 1;");
        bad(2, "person p^");
        bad(2, "person p   ^");
        bad(2, "person p ^1;");
        bad(2, "person p at ^night;");
        bad(4, "person p at ^10;");
        bad(2, "person p at 1 ^day;");
        bad(2, "person p at 1 night ^hinge;");
        bad(2, "person p at 1^");
        bad(2, "meet ^;");
        bad(2, "meet ^night;");
        bad(5, "meet ^p q hours 1 worth 1;");
        bad(5, P + "meet p ^q hours 1 worth 1;");
        bad(2, P + "meet p ^hours 1 worth 1;");
        bad(3, P + "meet p ^p hours 1 worth 1;");
        bad(2, PQ + "meet p q ^worth 1;");
        bad(4, PQ + "meet p q hours ^0 worth 1;");
        bad(4, PQ + "meet p q hours ^25 worth 1;");
        bad(4, PQ + "meet p q hours 24 worth ^0;");
        bad(4, PQ + "meet p q hours 24 worth ^100;");
        bad(2, PQ + "meet p q hours 24 worth 99^");
        bad(3, PQ + "meet p q hours 1 worth 1;meet p ^q hours 1 worth 1;");
        bad(3, PQ + "meet p q hours 1 worth 1;meet q ^p hours 1 worth 1;");
        bad(3, P + "person ^p at 2;");
        bad(5, "noise ^p at 1 loud 1;");
        bad(2, P + "noise p ^loud 1;");
        bad(4, P + "noise p at ^24 loud 1;");
        bad(4, P + "noise p at 23 loud ^0;");
        bad(4, P + "noise p at 23 loud ^21;");
        bad(3, P + "noise p at 3 loud 1;noise p at ^3 loud 2;");
        bad(3, P + "noise p at 3 loud 1;noise p at ^003 loud 2;");
        bad(5, "wakeful ^p 1;");
        bad(4, P + "wakeful p ^101;");
        bad(2, P + "wakeful p ^;");
        bad(3, P + "wakeful p 0;wakeful ^p 0;");
        bad(4, "date ^365;");
        bad(2, "date ^date;");
        bad(2, "date 0;^date 0;");
        good(2, PQ + "meet p q hours 24 worth 99;noise p at 0 loud 20;noise q at 0 loud 1;wakeful p 100;wakeful q 0;date 364;");
    }

    private static void persons() {
        String all = "";
        for (int i = 0; i < 7; i++) all += "person p" + times(i, "x") + " at " + i + ";";
        good(7, all);
        bad(2, all + "^person y at 1;");
        bad(2, all + "^person p at 1;");
        String meets = "";
        String[] names = {"p", "px", "pxx", "pxxx", "pxxxx", "pxxxxx"};
        int told = 0;
        for (int i = 0; i < 6; i++) {
            for (int j = 0; j < i && told < 10; j++, told++) meets += "meet " + names[i] + " " + names[j] + " hours 1 worth 1;";
        }
        good(7, all + meets);
        bad(2, all + meets + "^meet p zed hours 1 worth 1;");
        String noises = "";
        for (int i = 0; i < 8; i++) noises += "noise px at " + i + " loud 1;";
        good(7, all + noises);
        bad(2, all + noises + "^noise px at 9 loud 1;");
        for (String own : "person at night hinge meet hours worth noise loud wakeful dawn dusk harm date or and not hour far".split(" ")) {
            bad(2, "person ^" + own + " at 1;");
        }
        for (String free : "day line town name both one sum term unit e n hourx persons".split(" ")) {
            good(1, "person " + free + " at 1;");
        }
    }

    private static void formulas() {
        for (String which : new String[] {"dawn", "dusk", "harm"}) {
            good(0, which + " loud + far * hour - date;");
            bad(2, which + " 1;^" + which + " 1;");
            bad(2, which + "^");
            bad(2, which + " ^;");
            bad(2, which + " 1+^;");
            bad(2, which + " ^-1;");
            bad(2, which + " ^at;");
            bad(2, which + " ^ann;");
            bad(2, which + " 1^)");
            bad(2, which + " (1^;");
            bad(2, which + " (^)");
            bad(2, which + " 1<2^<3;");
            bad(2, which + " 1+^not 1;");
            bad(2, which + " 1<^not 1;");
            bad(2, which + " 1 and ^or 1;");
            good(0, which + " not 1<2 and not not 3=3 or (1<2)<3;");
            good(0, which + " " + sum(30) + ";");
            bad(2, which + " " + sum(30) + "+^1;");
            bad(2, which + " " + sum(30) + "+^(1);");
            bad(2, which + " " + sum(29) + "+(^1);");
            good(0, which + " " + sum(28) + "+(1);");
            good(0, which + " " + times(7, "(") + "1" + times(7, ")") + ";");
            bad(2, which + " " + times(7, "(") + "^(1");
            good(0, which + " " + times(7, "not ") + "1;");
            bad(2, which + " " + times(7, "not ") + "^not 1;");
            good(0, which + " " + times(2, "not ") + "(not ((not 1)));");
            bad(2, which + " " + times(2, "not ") + "(not ((not ^(1))));");
            bad(2, which + " " + times(6, "not ") + "(^not 1);");
        }
        good(0, "dawn " + sum(30) + ";harm " + sum(30) + ";");
        bad(2, "dawn " + sum(30) + ";harm " + sum(30) + ";dusk ^1;");
        bad(2, "dawn " + sum(25) + ";harm " + sum(25) + ";dusk " + sum(10) + "+^1;");
    }

    private static void longest() {
        String text = "dawn " + times(30, "not not not not not not not 1 and ") + "1;";
        bad(2, text.substring(0, text.length() - 2) + "^1;");
        String most = "dawn " + times(29, "not not not not not not not 1 and ") + "1;";
        HingeTown x = Check.told(most);
        check.due("all nots", x.light(0, 0), 0);
        HingeTown y = Check.told("dawn " + times(29, "not not not not not not 1 and ") + "1;");
        check.due("all nots twice", y.light(0, 0), 1);
        String blanks = times(1599, " ");
        good(0, blanks + "\n");
        bad(2, blanks + "^;");
    }

    public static void main(String[] args) {
        tokens();
        lines();
        persons();
        formulas();
        longest();
        check.end("FaultTests");
    }
}
