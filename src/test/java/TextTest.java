/** Promises 6 to 9: feed, end, text, fault. */
public final class TextTest {
    private static final int NONE = TwoCamps.NONE;
    private static final int WRAPPED = (int) (9999L * 9999L * 9999L);
    private static final Checks c = new Checks();

    public static void main(String[] args) {
        feedAndEnd();
        textAndFault();
        laws();
        longLaws();
        plans();
        tokens();
        open();
        sums();
        c.end("TextTest");
    }

    private static void feedAndEnd() {
        TwoCamps x = new TwoCamps();
        for (int k = 1; k <= 25; k++) {
            c.due("feed " + k, x.feed(0, 0, 0, 0, 0), 20 * k);
        }
        c.due("more than 500", x.feed(0, 0, 0, 0, 0), NONE);
        c.due("end(501)", x.end(501), false);
        c.due("end(-1)", x.end(-1), false);
        c.due("end(500)", x.end(500), true);
        c.due("end(481)", x.end(481), true);
        c.due("501 would be too many", x.feed(0, 0, 0, 0, 0), NONE);
        c.due("end(482)", x.end(482), false);
        c.due("end(480)", x.end(480), true);
        c.due("500 are not", x.feed(0, 0, 0, 0, 0), 500);
        c.due("end(0)", x.end(0), true);
        c.due("end(0) again", x.end(0), true);
        c.due("end(1)", x.end(1), false);
        // "add ", "7;  " and so on: of each number the highest byte first.
        c.due("feed", x.feed(0x61646420, 0x373b2020, 0x20202020, 0x0a0a0a0a, 0x73656520), 20);
        x.end(16);
        c.due("one line", x.text(0, 0), 1);
    }

    private static void textAndFault() {
        TwoCamps x = new TwoCamps();
        x.boy(0, 0);
        x.boy(0, 0);
        c.due("a law", Checks.law(x, 0, "see 1;\nsee 2;"), 2);
        c.due("the tape is empty", x.end(1), false);
        c.due("its first line", x.beans(0, 1, 5), 6);
        Checks.put(x, "see 3; see", 0);
        c.due("a fault", x.text(0, 0), NONE);
        c.due("fault(0)", x.fault(0), 1);
        c.due("fault(1)", x.fault(1), 10);
        c.due("fault(2)", x.fault(2), NONE);
        c.due("fault(-1)", x.fault(-1), NONE);
        c.due("the law stays", x.beans(0, 1, 5), 6);
        Checks.put(x, "see", 0);
        c.due("no such law", x.text(0, 4), NONE);
        c.due("the tape is empty then, too", x.end(1), false);
        c.due("fault(0) of none such", x.fault(0), 0);
        c.due("fault(1) of none such", x.fault(1), NONE);
        Checks.put(x, "see", 0);
        x.text(0, 1);
        c.due("no such plan", x.text(1, -1), NONE);
        c.due("fault(0) of none such", x.fault(0), 0);
        Checks.put(x, "see", 0);
        x.text(0, 1);
        c.due("no such sort", x.text(2, 0), NONE);
        c.due("fault(0) of none such", x.fault(0), 0);
        c.due("no such sort", x.text(-1, 0), NONE);
        c.due("an empty law", x.text(0, 0), 0);
        c.due("it tells nothing", x.beans(0, 1, 5), 5);
        c.due("a plan", Checks.plan(x, 3, "stir 0;apart;stir 1;"), 3);
        Checks.put(x, "apart;stir 2;", 0);
        c.due("a plan's fault", x.text(1, 3), NONE);
        c.due("the plan stays", x.led(3, 0, true, 6), 1);
        c.due("fault(0)", x.fault(0), 2);
        c.due("fault(1)", x.fault(1), 11);
    }

    private static void laws() {
        c.lines(0, "", 0);
        c.lines(0, " \n \n", 0);
        c.lines(0, "add 1;fight 1;home 1;name 1;see 1;slip 1;", 6);
        c.lines(0, "see " + "kind+prize+day+same+knew+won+lost+wronged+like+back+strong+own+across+size;", 1);
        c.lines(0, "see 1 when 1=1 and 2<3 or not 3>4 and (1=1 or 2=2);", 1);
        c.lines(0, "see 1;".repeat(16), 16);
        c.fault(0, "see 1;".repeat(17), 3, 96);
        c.fault(0, "see 1;".repeat(16) + " when", 1, 97);
        c.fault(0, "see 1;".repeat(16) + ";", 1, 96);
        c.fault(0, "see 1;;", 1, 6);
        c.fault(0, "when 1=1;", 1, 0);
        c.fault(0, "kind;", 1, 0);
        c.fault(0, "apart;", 1, 0);
        c.fault(0, "see;", 1, 3);
        c.fault(0, "see 1 2;", 1, 6);
        c.fault(0, "see 1 and 2;", 1, 6);
        c.fault(0, "see 1=1;", 1, 5);
        c.fault(0, "see 1 when 1;", 1, 12);
        c.fault(0, "see 1 when 1=;", 1, 13);
        c.fault(0, "see 1 when 1=1=1;", 1, 14);
        c.fault(0, "see 1 when 1=1 and;", 1, 18);
        c.fault(0, "see 1 when 1=1 or;", 1, 17);
        c.fault(0, "see 1 when (1=1;", 1, 15);
        c.fault(0, "see 1 when 1=1);", 1, 14);
        c.fault(0, "see 1 when (1)=1;", 1, 13);
        c.fault(0, "see 1 when 1=1 when 1=1;", 1, 15);
        c.fault(0, "see 1 when 1=1 not 1=1;", 1, 15);
        c.fault(0, "see -1;", 1, 4);
        c.fault(0, "see (1);", 1, 4);
        c.fault(0, "see not 1;", 1, 4);
        c.fault(0, "see 1+;", 1, 6);
        c.fault(0, "see 1*;", 1, 6);
        c.fault(0, "see 1/;", 1, 6);
        c.fault(0, "see 1/day;", 1, 6);
        c.fault(0, "see 1/0;", 2, 6);
        c.fault(0, "see 1/ 0000;", 2, 7);
        c.fault(0, "see 1/00000;", 1, 6);
        c.fault(0, "see 1/0", 2, 6);
        c.lines(0, "see 1/0001;", 1);
        c.lines(0, "see 0*0;", 1);
        c.fault(0, "see 1*2/3/0;", 2, 10);
        c.fault(0, "see 1 when 2/0=1;", 2, 13);
        c.fault(0, "see", 1, 3);
        c.fault(0, "see 1  ", 1, 7);
        c.fault(0, "see 1 when", 1, 10);
        c.fault(0, "see 1 when not", 1, 14);
        c.fault(0, "see 1 when (", 1, 12);
        c.fault(0, "see 1 when 1<1", 1, 14);
    }

    /** A LAW of all the lines, told again and again, and each time the last line counts. */
    private static void longLaws() {
        TwoCamps x = new TwoCamps();
        x.boy(0, 3);
        x.boy(0, 7);
        String never = "see 1 when 1=2;".repeat(15);
        for (int k = 0; k < 40; k++) {
            c.due("lines", Checks.law(x, k % 4, never + "see 5+2*3+" + k + " when 1=1 and (1=2 or 2=2);"), 16);
            x.force(k % 4);
            c.due("the last line", x.beans(0, 1, 0), 11 + k);
            c.due("days", Checks.plan(x, 0, "against 3;stir 1;".repeat(1 + k % 12)), 2 + 2 * (k % 12));
            c.due("days of it", x.led(0, 0, true, 6), 1 + k % 12);
        }
        c.due("the longest text: 250 NUMBERS", Checks.law(x, 0, "see1" + "+1".repeat(247) + ";"), 1);
        x.force(0);
        c.due("their sum", x.beans(0, 1, 0), 248);
    }

    private static void plans() {
        c.lines(1, "", 0);
        c.lines(1, "apart;against 0;beside;together;stir 0;stir 1;against 9;", 7);
        c.lines(1, "apart;".repeat(24), 24);
        c.fault(1, "apart;".repeat(25), 3, 144);
        c.fault(1, "apart;".repeat(24) + "see", 1, 144);
        c.fault(1, "against 10;", 2, 8);
        c.fault(1, "against 0010;", 2, 8);
        c.lines(1, "against 0009;", 1);
        c.fault(1, "against 00009;", 1, 8);
        c.fault(1, "against;", 1, 7);
        c.fault(1, "against", 1, 7);
        c.fault(1, "stir;", 1, 4);
        c.fault(1, "stir 2;", 2, 5);
        c.fault(1, "stir 1", 1, 6);
        c.fault(1, "stir -1;", 1, 5);
        c.fault(1, "against day;", 1, 8);
        c.fault(1, "apart 0;", 1, 6);
        c.fault(1, "beside+;", 1, 6);
        c.fault(1, "together when;", 1, 9);
        c.fault(1, "day;", 1, 0);
    }

    private static void tokens() {
        c.lines(0, "see1;see\n\n2when 3=3and 4<5;", 2);
        c.fault(0, "See 1;", 1, 0);
        c.fault(0, "SEE 1;", 1, 0);
        c.fault(0, "see dayx;", 1, 4);
        c.fault(0, "see dayA;", 1, 4);
        c.fault(0, "see da;", 1, 4);
        c.fault(0, "see dayz;", 1, 4);
        c.fault(0, "see dayZ;", 1, 4);
        c.fault(0, "see adday;", 1, 4);
        c.fault(0, "see zday;", 1, 4);
        c.fault(0, "see Zday;", 1, 4);
        c.fault(0, "sees 1;", 1, 0);
        c.fault(0, "see day1;", 1, 7);
        c.lines(0, "see 9999;", 1);
        c.fault(0, "see 10000;", 1, 4);
        c.fault(0, "see 0" + "0".repeat(40) + ";", 1, 4);
        c.fault(0, "see\t1;", 1, 3);
        c.fault(0, "see 1;\r", 1, 6);
        c.fault(0, "see 1,", 1, 5);
        c.fault(0, "see 1.", 1, 5);
        c.fault(0, "see 1:", 1, 5);
        c.fault(0, "see 1?", 1, 5);
        c.fault(0, "see 1 when 1<=1;", 1, 13);
        c.fault(0, "see ]1;", 1, 4);
        c.fault(0, "see 1;" + (char) 0, 1, 6);
        c.fault(0, "see 1;" + (char) 160, 1, 6);
        c.fault(0, "see 1;" + (char) 255, 1, 6);
        c.fault(0, "see `day;", 1, 4);
        c.fault(0, "see {1;", 1, 4);
        c.fault(0, "see @1;", 1, 4);
    }

    private static void open() {
        c.lines(0, "see 1 when ((((((((1=1))))))));", 1);
        c.fault(0, "see 1 when (((((((((1=1)))))))));", 3, 19);
        c.lines(0, "see 1 when " + "not ".repeat(8) + "1=1;", 1);
        c.fault(0, "see 1 when " + "not ".repeat(9) + "1=1;", 3, 43);
        c.fault(0, "see 1 when " + "not(".repeat(4) + "not 1=1))));", 3, 27);
        c.fault(0, "see 1 when " + "not(".repeat(4) + "(1=1)))));", 3, 27);
        c.lines(0, "see 1 when " + "not(".repeat(4) + "1=1))));", 1);
        c.lines(0, "see 1 when " + "not 1=1 and ".repeat(20) + "(1=1);", 1);
        c.lines(0, "see 1 when " + "(1=1) or ".repeat(20) + "(1=1);", 1);
        c.fault(0, "see 1 when ((((((((1=1 and not 1=1))))))));", 3, 27);
        c.lines(0, "see 1 when (((((((1=1 and not 1=1 or (2=2))))))));", 1);
        c.fault(0, "see 1 when 1=(((((((((", 1, 13);
        c.fault(0, "see 1 when ((((((((;", 1, 19);
    }

    /** What E and B come to: by BEANS of 900 that BOY 0 sees with BOY 1 (STRENGTH 7, LIKE 5, back -3). */
    private static void sums() {
        see("1+2*3", 7);
        see("2*3+1", 7);
        see("10-2-3", 5);
        see("10-2*3-1", 3);
        see("2*3*4", 24);
        see("100/7/2", 7);
        see("100/7*2", 28);
        see("2*100/7", 28);
        see("1-7/2", -2);
        see("back/2", -1);
        see("like*back", -15);
        see("0-like/2*3+strong", 1);
        see("9999*9999*9999*0+1", 1);
        see("9999*9999*9999/9999", WRAPPED / 9999);
        see("strong-own-across-size", 7);
        see("1 when 1=1 or 1=1 and 1=2", 1);
        see("1 when 1=2 and 1=1 or 1=1", 1);
        see("1 when (1=1 or 1=1) and 1=2", 0);
        see("1 when 1=1 or 1=2 and 1=2 or 1=2", 1);
        see("1 when not 1=2 and 1=2", 0);
        see("1 when not (1=2 and 1=2)", 1);
        see("1 when not not 1=1", 1);
        see("1 when not not not 1=1", 0);
        see("1 when 1+1=2 and 2>1 and 1<2", 1);
        see("1 when 2<1", 0);
        see("1 when 1<1", 0);
        see("1 when 1>1", 0);
        see("1 when like>back and back<0", 1);
        see("1 when 1=2 and 1=2 or 1=1 and 1=1 or 1=2 and 1=2", 1);
        see("1 when 1=2;see 2 when 1=1;see 3", 2);
        see("1 when 1=2;see 2 when 1=2;see 3", 3);
        see("1 when 1=2;add 2", 0);
        see("1 when (1=2 or (1=1 and (1=2 or (1=1 and (1=2 or (1=1 and (1=2 or (1=1 and 1=1))))))))", 1);
    }

    private static void see(String text, int want) {
        TwoCamps x = new TwoCamps();
        x.boy(0, 3);
        x.boy(0, 7);
        x.like(0, 1, 5);
        x.like(1, 0, -3);
        Checks.law(x, 0, "see " + text + ";");
        c.due("see " + text, x.beans(0, 1, 900), want + 900 > 9999 ? 9999 : Math.max(0, want + 900));
    }
}
