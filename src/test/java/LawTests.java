/** Promises 9 to 12: the tape, the law and its faults; and what the law says of the odds. */
public final class LawTests {
    private static final int NONE = PulledJersey.NONE;
    private static final Checks C = new Checks("LawTests");

    public static void main(String[] args) {
        feed();
        end();
        text();
        textIsNotUndone();
        fault();
        faultsOfSigns();
        faultsOfLines();
        faultsOfTests();
        partByZero();
        tooManyLines();
        tooManyOpen();
        odds();
        oddsOfTests();
        C.close();
    }

    private static void feed() {
        C.about("9 feed");
        PulledJersey x = new PulledJersey();
        // "run 1" and blanks: the highest byte of each number comes first.
        C.due("feed", x.feed(0x72756e20, 0x3132333b, 0x20202020, 0x20202020, 0x20202020), 20);
        C.due("feed", x.feed(0x20202020, 0x20202020, 0x20202020, 0x20202020, 0x20202020), 40);
        C.due("text()", x.text(), 1);
        x.gone(24);
        C.due("of(16, 5)", x.of(16, 5), 123);
        for (int i = 1; i <= 20; i++) {
            C.due("feed " + i, x.feed(i, -1, 0, Integer.MIN_VALUE, 5), 20 * i);
        }
        C.due("feed, 400 are there", x.feed(0, 0, 0, 0, 0), NONE);
        C.yes("end(381)", x.end(381));
        C.due("feed, 401 would be", x.feed(0, 0, 0, 0, 0), NONE);
        C.yes("end(380)", x.end(380));
        C.due("feed, 400", x.feed(0, 0, 0, 0, 0), 400);
        PulledJersey y = new PulledJersey();
        y.gone(0);
        y.feed(0, 0, 0, 0, 0);
        y.end(0);
        C.due("feed and end forget nothing", y.look(10), 1);
    }

    private static void end() {
        C.about("10 end");
        PulledJersey x = new PulledJersey();
        C.yes("end(0)", x.end(0));
        C.no("end(1)", x.end(1));
        C.no("end(-1)", x.end(-1));
        Checks.feed(x, "run 9; and what not");
        C.no("end(20)", x.end(20));
        C.no("end(min)", x.end(Integer.MIN_VALUE));
        C.no("end(max)", x.end(Integer.MAX_VALUE));
        C.yes("end(19)", x.end(19));
        C.yes("end(6)", x.end(6));
        C.no("end(7)", x.end(7));
        C.due("feed", x.feed(0x20202020, 0x20202020, 0x20202020, 0x20202020, 0x20202020), 26);
        C.due("text()", x.text(), 1);
    }

    private static void text() {
        C.about("11 text");
        PulledJersey x = new PulledJersey();
        C.due("two lines", Checks.tell(x, "run 1 when row=0;\nrun 2;"), 2);
        C.due("look(9)", x.look(9), 2);
        C.due("the tape is empty", x.feed(0, 0, 0, 0, 0), 20);
        C.due("a fault", x.text(), NONE);
        C.due("the tape is empty", x.feed(0, 0, 0, 0, 0), 20);
        C.due("the law stays", x.look(9), 2);
        x.end(0);
        C.due("an empty text", x.text(), 0);
        C.due("look(9)", x.look(9), 0);
        C.due("blanks alone", Checks.tell(x, " \n  \n"), 0);
        C.due("no blank needed", Checks.tell(x, "run5when not(1<2)or 3>row;"), 1);
        C.due("many blanks", Checks.tell(x, "\n run\n\n5  when  not ( 1 <\n2 ) ;  "), 1);
        C.due("sixteen lines", Checks.tell(x, "run 1;".repeat(16)), 16);
        C.due("400 bytes", Checks.tell(x, "run 1" + "+1".repeat(197) + ";"), 1);
        x.gone(24);
        C.due("their sum", x.of(16, 5), 198);
    }

    private static void textIsNotUndone() {
        C.about("25 undo, and a text");
        PulledJersey x = new PulledJersey();
        x.gone(24);
        x.hours(1);
        Checks.tell(x, "run 7;");
        C.due("look(10)", x.look(10), 2);
        C.yes("undo()", x.undo());
        C.due("look(9)", x.look(9), 1);
        C.due("of(16, 5)", x.of(16, 5), 7);
    }

    private static void fault() {
        C.about("12 fault");
        PulledJersey x = new PulledJersey();
        Checks.tell(x, "run ;");
        C.due("fault(0)", x.fault(0), 1);
        C.due("fault(1)", x.fault(1), 4);
        C.due("fault(2)", x.fault(2), NONE);
        C.due("fault(-1)", x.fault(-1), NONE);
        C.due("fault(min)", x.fault(Integer.MIN_VALUE), NONE);
        Checks.tell(x, "run 1;");
        C.due("fault(0)", x.fault(0), 0);
        C.due("fault(1)", x.fault(1), NONE);
    }

    private static void faultsOfSigns() {
        C.about("12 fault, tokens");
        C.faulty("runs 1;", 1, 0);
        C.faulty("Run 1;", 1, 0);
        C.faulty("runX 1;", 1, 0);
        C.faulty("runa 1;", 1, 0);
        C.faulty("runz 1;", 1, 0);
        C.faulty("runA 1;", 1, 0);
        C.faulty("runZ 1;", 1, 0);
        C.faulty("run@1;", 1, 3);
        C.faulty("run[1;", 1, 3);
        C.faulty("run`1;", 1, 3);
        C.faulty("run{1;", 1, 3);
        C.faulty("run 1:;", 1, 5);
        C.faulty("ru n 1;", 1, 0);
        C.faulty("run rowcolumn;", 1, 4);
        C.faulty("run 12345;", 1, 4);
        C.faulty("run 00001;", 1, 4);
        C.faulty("run 1/00000;", 1, 6);
        C.faulty("run\t1;", 1, 3);
        C.faulty("run 1;\r", 1, 6);
        C.faulty("run 1" + (char) 233 + ";", 1, 5);
        C.faulty("run 1" + (char) 0 + ";", 1, 5);
        C.faulty("run 1.5;", 1, 5);
        C.faulty("run 1;   !", 1, 9);
    }

    private static void faultsOfLines() {
        C.about("12 fault, lines");
        C.faulty("run", 1, 3);
        C.faulty("run  \n ", 1, 7);
        C.faulty("run 1", 1, 5);
        C.faulty("run 1 ", 1, 6);
        C.faulty(";", 1, 0);
        C.faulty("1;", 1, 0);
        C.faulty("run 1;;", 1, 6);
        C.faulty("run 1 2;", 1, 6);
        C.faulty("run run;", 1, 4);
        C.faulty("run -1;", 1, 4);
        C.faulty("run (1);", 1, 4);
        C.faulty("run 1 +;", 1, 7);
        C.faulty("run 1 + + 2;", 1, 8);
        C.faulty("run 1 * / 2;", 1, 8);
        C.faulty("run 8/row;", 1, 6);
        C.faulty("run 8/;", 1, 6);
        C.faulty("run 8/", 1, 6);
        C.faulty("run 1 < 2;", 1, 6);
        C.faulty("run 1 or 2;", 1, 6);
        C.faulty("run 1; run 2 when row=1; 3;", 1, 25);
    }

    private static void faultsOfTests() {
        C.about("12 fault, tests");
        C.faulty("run 1 when;", 1, 10);
        C.faulty("run 1 when 2;", 1, 12);
        C.faulty("run 1 when 2 <;", 1, 14);
        C.faulty("run 1 when 2 < 3 < 4;", 1, 17);
        C.faulty("run 1 when 2 <= 3;", 1, 14);
        C.faulty("run 1 when row and 2=2;", 1, 15);
        C.faulty("run 1 when (2=2;", 1, 15);
        C.faulty("run 1 when 2=2);", 1, 14);
        C.faulty("run 1 when ();", 1, 12);
        C.faulty("run 1 when (2)=2;", 1, 13);
        C.faulty("run 1 when not;", 1, 14);
        C.faulty("run 1 when 2=2 not 3=3;", 1, 15);
        C.faulty("run 1 when 2=2 and;", 1, 18);
        C.faulty("run 1 when 2=2 or", 1, 17);
        C.faulty("run 1 when 2=2 when 2=2;", 1, 15);
    }

    private static void partByZero() {
        C.about("12 fault, a part by 0");
        C.faulty("run 8/0;", 2, 6);
        C.faulty("run 8 / 0000;", 2, 8);
        C.faulty("run 8/0", 2, 6);
        C.faulty("run 8/2/0/0 !", 2, 8);
        C.faulty("run 1 when row/0=1;", 2, 15);
        C.faulty("run ! 8/0;", 1, 4);
        PulledJersey x = new PulledJersey();
        C.due("a part of 0", Checks.tell(x, "run 0/1*0;"), 1);
        C.due("a part by 01", Checks.tell(x, "run 5/01;"), 1);
    }

    private static void tooManyLines() {
        C.about("12 fault, the 17th line");
        String sixteen = "run 1;".repeat(16);
        C.faulty(sixteen + "run 1;", 3, 96);
        C.faulty(sixteen + "\n run", 3, 98);
        C.faulty(sixteen + "runs", 1, 96);
        C.faulty(sixteen + "1", 1, 96);
        C.faulty("run 1;".repeat(15) + "run ;" + "run 1;", 1, 94);
        C.faulty(sixteen + "run 1/0;", 3, 96);
    }

    private static void tooManyOpen() {
        C.about("12 fault, the 9th that is open");
        PulledJersey x = new PulledJersey();
        C.due("eight not", Checks.tell(x, "run 1 when " + "not ".repeat(8) + "1=1;"), 1);
        C.due("eight (", Checks.tell(x, "run 1 when " + "(".repeat(8) + "1=1" + ")".repeat(8) + ";"), 1);
        C.due("eight of both", Checks.tell(x, "run 1 when " + "not(".repeat(4) + "1=1" + ")".repeat(4) + ";"), 1);
        C.due("those closed don't count", Checks.tell(x,
            "run 1 when " + "(not 1=1) and ".repeat(12) + "not ((2=2));"), 1);
        C.due("a closed not does not count", Checks.tell(x,
            "run 1 when " + "not not not 1=1 or ".repeat(4) + "not not not not not not not not 1=1;"), 1);
        C.faulty("run 1 when " + "not ".repeat(9) + "1=1;", 3, 43);
        C.faulty("run 1 when " + "(".repeat(9) + "1=1" + ")".repeat(9) + ";", 3, 19);
        C.faulty("run 1 when " + "not(".repeat(4) + "not 1=1" + ")".repeat(4) + ";", 0 + 3, 27);
        C.faulty("run 1 when " + "not(".repeat(4) + "1=1 and (1=1)" + ")".repeat(4) + ";", 3, 35);
        C.faulty("run 1 when " + "(".repeat(9), 3, 19);
        C.faulty("run 1 when " + "(".repeat(8), 1, 19);
        C.faulty("run 1 when " + "(".repeat(8) + "not", 3, 19);
        C.faulty("run 1 when " + "(".repeat(8) + ")", 1, 19);
    }

    private static void odds() {
        C.about("13 of, odds by sums");
        C.odds("", 500);
        C.odds("run 0;", 0);
        C.odds("run 1000;", 1000);
        C.odds("run 1001;", 1000);
        C.odds("run 9999;", 1000);
        C.odds("run 3-5;", 0);
        C.odds("run kind;", 3);
        C.odds("run row;", 1);
        C.odds("run column;", 2);
        C.odds("run beside;", 1);
        C.odds("run below;", 1);
        C.odds("run hour;", 7);
        C.odds("run gone;", 2);
        C.odds("run 100*kind+10*hour+gone;", 372);
        C.odds("run 2+3*4;", 14);
        C.odds("run 2*3+4;", 10);
        C.odds("run 100-10-1;", 89);
        C.odds("run 100-10*2+3*4-1;", 91);
        C.odds("run 100/7;", 14);
        C.odds("run 100/7*7;", 98);
        C.odds("run 7*100/7/2;", 50);
        C.odds("run 100+7/2;", 103);
        // Towards 0: -7 / 2 is -3, not -4.
        C.odds("run 10+0*1-7/2;", 7);
        C.odds("run 9999*9999*9999*9999/9999+0;", heldTo(9999 * 9999 * 9999 * 9999 / 9999));
        C.odds("run 9999*9999*43/9999;", heldTo(9999 * 9999 * 43 / 9999));
        C.odds("run 9999*9999*25/9999;", heldTo(9999 * 9999 * 25 / 9999));
        C.odds("run hour*9999*9999*8/9999/1000;", heldTo(7 * 9999 * 9999 * 8 / 9999 / 1000));
    }

    private static int heldTo(int v) {
        return Math.max(0, Math.min(1000, v));
    }

    private static void oddsOfTests() {
        C.about("13 of, odds by tests");
        C.odds("run 1 when row=0; run 2 when row=1; run 3;", 2);
        C.odds("run 1 when row=0; run 2 when row=2;", 500);
        C.odds("run 1; run 2;", 1);
        C.odds("run 1 when hour<7; run 2 when hour>7; run 3 when hour=7;", 3);
        C.odds("run 1 when hour<8; run 2;", 1);
        C.odds("run 1 when hour>6; run 2;", 1);
        C.odds("run 1 when not hour>6; run 2;", 2);
        C.odds("run 1 when not not hour>6; run 2;", 1);
        C.odds("run 1 when 1=1 or 1=1 and 1=2; run 2;", 1);
        C.odds("run 1 when 1=2 and 1=1 or 1=1; run 2;", 1);
        C.odds("run 1 when (1=1 or 1=1) and 1=2; run 2;", 2);
        C.odds("run 1 when 1=2 and (1=1 or 1=1); run 2;", 2);
        C.odds("run 1 when not 1=1 or 1=1; run 2;", 1);
        C.odds("run 1 when not (1=1 or 1=1); run 2;", 2);
        C.odds("run 1 when 1=2 or 1=2 or 1=1; run 2;", 1);
        C.odds("run 1 when 1=1 and 1=1 and 1=2; run 2;", 2);
        C.odds("run 1 when 1=2 or 1=1 and 1=2 or 1=1 and 1=1; run 2;", 1);
        C.odds("run 1 when 1+2*3=7 and 0-1<0; run 2;", 1);
        C.odds("run 1 when 2<1;", 500);
        PulledJersey x = Checks.loose();
        Checks.tell(x, "run 100*beside+10*below+gone;");
        C.due("of(10, 5)", x.of(10, 5), 112);
        x.gone(2);
        C.due("of(10, 5), none below", x.of(10, 5), 103);
        x.set(3, 9, 0);
        C.due("of(10, 5), two beside", x.of(10, 5), 203);
        x.gone(11);
        x.gone(9);
        C.due("of(10, 5), none beside", x.of(10, 5), 3);
        PulledJersey y = new PulledJersey();
        y.gone(8);
        y.gone(11);
        Checks.tell(y, "run 100*beside+10*below+gone;");
        C.due("at the border", y.of(0, 5), 101);
        C.due("at the other", y.of(3, 5), 101);
        C.due("held", y.of(1, 5), 0);
    }
}
