/** Texts of CITIES and of RULES: where each one's first FAULT is, and of which kind. */
public final class FaultTest {
    private static final Calls calls = new Calls();
    private static final int STANDS = -1;

    public static void main(String[] args) {
        cities();
        citiesOfNumbers();
        citiesOfManyClauses();
        ruleWords();
        ruleSigns();
        ruleDepth();
        ruleItems();
        ruleClauses();
        strangeBytes();
        calls.close("FaultTest");
    }

    private static int fault(int place, int kind) {
        return place == STANDS ? kind : -2 - (1 + 8 * place + kind);
    }

    private static void city(String text, int place, int kind) {
        HollowBed x = Calls.bedsOf("city 9 2;bed 1 2 3");
        calls.due("city of \"" + text + "\"", Calls.city(x, text), fault(place, kind));
        calls.due("TAPE behind city \"" + text + "\"", x.count(13), 0);
        if (place != STANDS) {
            calls.due("CARD stays behind \"" + text + "\"", x.count(0), 9);
            calls.due("HOLLOW stays behind \"" + text + "\"", x.bed(0, 0), 1);
        }
    }

    private static void rule(String text, int place, int kind) {
        HollowBed x = new HollowBed();
        calls.due("rule of \"" + text + "\"", Calls.rule(x, text), fault(place, kind));
        calls.due("TAPE behind rule \"" + text + "\"", x.count(13), 0);
        calls.due("RULES behind rule \"" + text + "\"", x.count(4), place == STANDS ? 1 : 0);
    }

    private static void cities() {
        city("city 60 6", STANDS, 0);
        city("city1 1", STANDS, 0);
        city("  city  1   1  ;  bed 1 2 3  ", STANDS, 1);
        city("city 1 1;bed0 99 9;lodger99 9 0", STANDS, 1);
        city("", 0, 0);
        city("   ", 3, 0);
        city("city", 4, 0);
        city("city  ", 6, 0);
        city("city 1", 6, 0);
        city("city 11", 7, 0);
        city("city 1 1;", 9, 0);
        city("city 1 1; ", 10, 0);
        city("city 1 1;;", 9, 0);
        city("city 1 1 1", 9, 0);
        city("city 1 1 bed 1 1 1", 9, 0);
        city("city 1,1", 6, 0);
        city("city x 1", 5, 0);
        city("city -1 1", 5, 0);
        city("City 1 1", 0, 0);
        city("cit 1 1", 0, 0);
        city("citybed 1 1", 0, 0);
        city("lie 1", 0, 0);
        city("1 1", 0, 0);
        city(";city 1 1", 0, 0);
        city("  bed 1 1 1;city 1 1", 2, 4);
        city("lodger 1 1 1", 0, 4);
        city("city 1 1; city 0 0", 10, 4);
        city("city 1 1; beds 0 0 1", 10, 0);
        city("city 1 1;bed 1 1", 16, 0);
        city("city 1 1;lodger 1 1", 19, 0);
        city("city 1 1;bed 1 1 1 1", 19, 0);
    }

    private static void citiesOfNumbers() {
        city("city 00001 00006", STANDS, 0);
        city("city 000001 1", 5, 1);
        city("city 0 1", 5, 1);
        city("city 61 1", 5, 1);
        city("city 60 0", 8, 1);
        city("city 60 7", 8, 1);
        city("city 99999999999999999999 1", 5, 1);
        city("city 4294967297 1", 5, 1);
        city("city 1 1;bed 100 0 1", 13, 1);
        city("city 1 1;bed 99 100 1", 16, 1);
        city("city 1 1;bed 99 99 0", 19, 1);
        city("city 1 1;bed 99 99 10", 19, 1);
        city("city 1 1;lodger 100 0 1", 16, 1);
        city("city 1 1;lodger 99 0 1", 19, 1);
        city("city 1 1;lodger 99 10 1", 19, 1);
        city("city 1 1;lodger 99 9 100", 21, 1);
        city("city 1 1;bed 100", 13, 1);
        city("city 1 1;bed 100x", 13, 1);
    }

    private static void citiesOfManyClauses() {
        String beds = ";bed 0 0 1".repeat(5);
        String lodgers = ";lodger 0 1 0".repeat(6);
        city("city 1 1" + beds + lodgers, STANDS, 5);
        city("city 1 1" + lodgers + beds, STANDS, 5);
        city("city 1 1" + beds + "; bed", 8 + 50 + 2, 4);
        city("city 1 1" + beds + "; bedd", 8 + 50 + 2, 0);
        city("city 1 1" + lodgers + ";lodger 0 1 0", 8 + 78 + 1, 4);
        city("city 1 1" + lodgers + ";lodge", 8 + 78 + 1, 0);
    }

    private static void ruleWords() {
        rule("lie lodger+bed+shape+body+wants+hollow+under+stuff+room+last+near+night", STANDS, 0);
        rule("lie1", STANDS, 0);
        rule(" lie  00001  if1=1and 2=2or 3=3 ; lie 2 ", STANDS, 0);
        rule("lie 1if not[not 1=1]", STANDS, 0);
        rule("", 0, 0);
        rule(" ", 1, 0);
        rule("lie", 3, 0);
        rule("lies 1", 0, 0);
        rule("li 1", 0, 0);
        rule("liea 1", 0, 0);
        rule("liez 1", 0, 0);
        rule("lie`1", 3, 0);
        rule("lie{1", 3, 0);
        rule("lie/1", 3, 0);
        rule("lie 1:", 5, 0);
        rule("liebed", 0, 0);
        rule("lie if", 4, 0);
        rule("lie not", 4, 0);
        rule("lie lie", 4, 0);
        rule("lie far", 4, 0);
        rule("lie beds", 4, 0);
        rule("lie bedroom", 4, 0);
        rule("lie be", 4, 0);
        rule("lie bed room", 8, 0);
        rule("lie bed1", 7, 0);
        rule("lie 1 2", 6, 0);
        rule("lie 1 200000", 6, 0);
        rule("lie 1 iff 1=1", 6, 0);
        rule("lie 1 or 1=1", 6, 0);
        rule("lie 1 if", 8, 0);
        rule("lie 1 if if", 9, 0);
        rule("lie 1 if 1=1 and", 16, 0);
        rule("lie 1 if 1=1 or ;", 16, 0);
        rule("lie 1 if 1=1 or or 1=1", 16, 0);
        rule("lie 1 if 1=1 if 1=1", 13, 0);
        rule("lie 1 if 1=1 not 1=1", 13, 0);
        rule("lie 1 if not", 12, 0);
        rule("lie 1 if nots 1=1", 9, 0);
        rule("lie 1 if not1=1", STANDS, 0);
        rule("city 1 1", 0, 0);
    }

    private static void ruleSigns() {
        rule("lie 1 if 1<1 and 1<=1 and 1=1 and 1>=1 and 1>1", STANDS, 0);
        rule("lie 1+2-3*4/5%6", STANDS, 0);
        rule("lie 99999", STANDS, 0);
        rule("lie 100000", 4, 1);
        rule("lie 000000", 4, 1);
        rule("lie 1+123456", 6, 1);
        rule("lie -1", 4, 0);
        rule("lie 1+", 6, 0);
        rule("lie 1+ ", 7, 0);
        rule("lie 1++1", 6, 0);
        rule("lie [1]", 4, 0);
        rule("lie 1=1", 5, 0);
        rule("lie 1 if 1", 10, 0);
        rule("lie 1 if 1 and 1", 11, 0);
        rule("lie 1 if 1< =1", 12, 0);
        rule("lie 1 if 1=<1", 11, 0);
        rule("lie 1 if 1==1", 11, 0);
        rule("lie 1 if 1<<1", 11, 0);
        rule("lie 1 if 1<=>1", 12, 0);
        rule("lie 1 if 1=1=1", 12, 0);
        rule("lie 1 if 1!=1", 10, 0);
        rule("lie 1 if [1]=1", 11, 0);
        rule("lie 1 if [1=1", 13, 0);
        rule("lie 1 if [1=1;", 13, 0);
        rule("lie 1 if [1=1]]", 14, 0);
        rule("lie 1 if [1=1]+1", 14, 0);
        rule("lie 1 if [1=1] and[2=2]", STANDS, 0);
        rule("lie 1 if []", 10, 0);
        rule("lie 1 if 1=1]", 12, 0);
        rule("lie 1;", 6, 0);
        rule("lie 1;;lie 1", 6, 0);
        rule("lie 1.", 5, 0);
        rule("lie (1)", 4, 0);
    }

    private static void ruleDepth() {
        String tenNots = "not ".repeat(10);
        rule("lie 1 if " + "[".repeat(10) + "1=1" + "]".repeat(10), STANDS, 0);
        rule("lie 1 if " + "[".repeat(11) + "1=1" + "]".repeat(11), 19, 2);
        rule("lie 1 if " + tenNots + "1=1", STANDS, 0);
        rule("lie 1 if " + tenNots + "not 1=1", 49, 2);
        rule("lie 1 if " + tenNots + "[1=1]", 49, 2);
        rule("lie 1 if " + tenNots + "1=1 and " + tenNots + "1=1", STANDS, 0);
        rule("lie 1 if " + "not[".repeat(5) + "1=1" + "]".repeat(5), STANDS, 0);
        rule("lie 1 if " + "not[".repeat(5) + "not 1=1" + "]".repeat(5), 29, 2);
        rule("lie 1 if " + "not[".repeat(5) + "nota 1=1", 29, 0);
        rule("lie 1 if " + "[".repeat(10) + "1=1" + "]".repeat(10) + " or [1=1]", STANDS, 0);
        rule("lie 1 if " + "[".repeat(9) + "not 1=1 and [1=1] and [", 9 + 9 + 23, 0);
    }

    private static void ruleItems() {
        String sixty = "lie 1" + "+1".repeat(59);
        rule(sixty, STANDS, 0);
        rule(sixty + "+1", 4 + 120, 3);
        rule(sixty + "+ bed", 4 + 121, 3);
        rule(sixty + "+ bad", 4 + 121, 0);
        rule(sixty + "+123456", 4 + 120, 1);
        rule(sixty + "+", 4 + 120, 0);
        rule(sixty + " if 1=1", 4 + 119 + 4, 3);
        rule(sixty + ";lie 1", 4 + 119 + 5, 3);
        rule("lie 1" + "+1".repeat(56) + " if 1=1", STANDS, 0);
        rule("lie 1" + "+1".repeat(57) + " if 1=1", 4 + 115 + 4 + 2, 3);
        rule("lie 1" + "+1".repeat(58) + " if 1 >=1", 4 + 117 + 4 + 2, 3);
        rule("lie 1" + "+1".repeat(58) + " if 1 !", 4 + 117 + 4 + 2, 0);
        rule("lie 1 if 1=1" + " or 1=1".repeat(18), STANDS, 0);
        rule("lie 1+1+1 if 1=1" + " or 1=1".repeat(18), STANDS, 0);
        rule("lie 1+1+1 if 1=1" + " or 1=1".repeat(19), 16 + 126 + 4, 3);
    }

    private static void ruleClauses() {
        String twelve = "lie 1" + ";lie 1".repeat(11);
        rule(twelve, STANDS, 0);
        rule(twelve + ";lie 1", 72, 4);
        rule(twelve + "; lie", 73, 4);
        rule(twelve + "; lies", 73, 0);
        rule(twelve + ";", 72, 0);
        rule(twelve + "; 1", 73, 0);
    }

    private static void strangeBytes() {
        rule("lie 1" + (char) 0, 5, 0);
        rule("lie 1" + (char) 255, 5, 0);
        rule("lie\t1", 3, 0);
        rule("lie 1\n", 5, 0);
        city("city 1 1" + (char) 200, 8, 0);
        rule("LIE 1", 0, 0);
        rule((char) 128 + "lie 1", 0, 0);
    }
}
