/** The bounds that the document's terms of THE LAW name, sentence by sentence. */
public final class LawBoundTests {
    private static final Checks C = new Checks("LawBoundTests");
    private static final String SIXTEEN = "run 1;".repeat(16);

    public static void main(String[] args) {
        emptyAtFirst();
        lines();
        ors();
        ands();
        truths();
        longConditions();
        clauses();
        sums();
        products();
        units();
        words();
        digits();
        numbers();
        noneAnywhere();
        signs();
        blanks();
        wrapping();
        towardsZero();
        firstByPlace();
        leastAtOnePlace();
        cantStand();
        theEnd();
        partByZero();
        seventeenthLine();
        ninthOpen();
        C.close();
    }

    private static int linesOf(String text) {
        return Checks.tell(new PulledJersey(), text);
    }

    private static void right(String text, int lines) {
        C.due("lines of '" + text + "'", linesOf(text), lines);
    }

    private static void emptyAtFirst() {
        C.sentence("THE LAW is a TEXT (empty at first)");
        PulledJersey x = new PulledJersey();
        C.due("look(9)", x.look(9), 0);
        x.gone(24);
        C.due("of(16, 5)", x.of(16, 5), 500);
        C.due("an empty text is one", x.text(), 0);
        C.due("without a fault", x.fault(0), 0);
    }

    private static void lines() {
        C.sentence("= {run E [when B] ;}.");
        right("", 0);
        right("run 1;", 1);
        right("run 1 when 1=1;", 1);
        right("run 1;run 2;", 2);
        C.faulty("run 1", 1, 5);
        C.faulty("run 1 when 1=1", 1, 14);
        C.faulty("run;", 1, 3);
        C.faulty("when 1=1;", 1, 0);
        C.faulty("1;", 1, 0);
        C.faulty(";", 1, 0);
        C.faulty("run 1;;", 1, 6);
        C.faulty("run 1 when 1=1 when 1=1;", 1, 15);
        C.faulty("run 1 run 2;", 1, 6);
    }

    private static void ors() {
        C.sentence("B = A {or A}.");
        C.odds("run 1 when 1=1;run 2;", 1);
        C.odds("run 1 when 1=2;run 2;", 2);
        C.odds("run 1 when 1=2 or 1=2 or 1=1;run 2;", 1);
        C.odds("run 1 when 1=2 or 1=1 or 1=2;run 2;", 1);
        C.odds("run 1 when 1=1 or 1=2 or 1=2;run 2;", 1);
        C.odds("run 1 when 1=2 or 1=2 or 1=2;run 2;", 2);
        C.odds("run 1 when 1=1 or 1=1 and 1=2;run 2;", 1);
        C.odds("run 1 when 1=2 and 1=2 or 1=1;run 2;", 1);
        C.faulty("run 1 when or 1=1;", 1, 11);
        C.faulty("run 1 when 1=1 or;", 1, 17);
        C.faulty("run 1 when 1=1 or or 1=1;", 1, 18);
    }

    private static void ands() {
        C.sentence("A = C {and C}.");
        C.odds("run 1 when 1=1 and 1=1 and 1=2;run 2;", 2);
        C.odds("run 1 when 1=2 and 1=1 and 1=1;run 2;", 2);
        C.odds("run 1 when 1=1 and 1=1 and 1=1;run 2;", 1);
        C.faulty("run 1 when and 1=1;", 1, 11);
        C.faulty("run 1 when 1=1 and;", 1, 18);
        C.faulty("run 1 when 1=1 and or 1=1;", 1, 19);
    }

    private static String clause(boolean isSo, int form) {
        String[] so = {"1=1", "1<2", "2>1", "not 1=2", "(1=1)", "not(2<1)", "(1>2 or 1<2)"};
        String[] not = {"1=2", "2<1", "1>2", "not 1=1", "(1=2)", "not(1<2)", "(1>2 and 1<2)"};
        return isSo ? so[form % so.length] : not[form % not.length];
    }

    /** Four clauses, so or not by their bits, joined by and (0) or or (1): an or of ands. */
    private static void truths(int bits, int ors) {
        StringBuilder text = new StringBuilder(clause((bits & 1) == 1, bits));
        boolean any = false;
        boolean each = (bits & 1) == 1;
        for (int i = 1; i < 4; i++) {
            boolean isSo = (bits >> i & 1) == 1;
            boolean isOr = (ors >> i - 1 & 1) == 1;
            text.append(isOr ? " or " : " and ").append(clause(isSo, bits + 3 * i + ors));
            any |= isOr && each;
            each = isOr ? isSo : each && isSo;
        }
        int odds = any || each ? 1 : 2;
        C.odds("run 1 when " + text + ";run 2;", odds);
        C.odds("run 1 when not(" + text + ");run 2;", 3 - odds);
        C.odds("run 1 when (" + text + ")and 1=1;run 2;", odds);
        C.odds("run 1 when 1=1 and(" + text + ")or 1=2;run 2;", odds);
    }

    private static void truths() {
        C.sentence("B = A {or A}.  A = C {and C}.");
        for (int bits = 0; bits < 16; bits++) {
            for (int ors = 0; ors < 8; ors++) {
                truths(bits, ors);
            }
        }
    }

    private static void longConditions() {
        C.sentence("B = A {or A}.  A = C {and C}.");
        C.odds("run 1 when " + "1=2or ".repeat(61) + "1=1;run 2;", 1);
        C.odds("run 1 when " + "1=2or ".repeat(61) + "1=2;run 2;", 2);
        C.odds("run 1 when " + "1=1and ".repeat(52) + "1=2;run 2;", 2);
        C.odds("run 1 when " + "1=1and ".repeat(52) + "1=1;run 2;", 1);
    }

    private static void clauses() {
        C.sentence("C = E (< | = | >) E | not C | ( B ).");
        String[] tests = {"6<7", "7<7", "8<7", "6=7", "7=7", "8=7", "6>7", "7>7", "8>7"};
        int[] odds = {1, 2, 2, 2, 1, 2, 2, 2, 1};
        for (int i = 0; i < tests.length; i++) {
            C.odds("run 1 when " + tests[i] + ";run 2;", odds[i]);
            C.odds("run 1 when not " + tests[i] + ";run 2;", 3 - odds[i]);
            C.odds("run 1 when (" + tests[i] + ");run 2;", odds[i]);
        }
        // Not is of its C alone, not of the A or B that follows.
        C.odds("run 1 when not 1=1 or 1=1;run 2;", 1);
        C.odds("run 1 when not 1=2 and 1=2;run 2;", 2);
        C.odds("run 1 when not (1=1 or 1=1);run 2;", 2);
        C.faulty("run 1 when;", 1, 10);
        C.faulty("run 1 when 1;", 1, 12);
        C.faulty("run 1 when 1<2<3;", 1, 14);
        C.faulty("run 1 when 1<=2;", 1, 13);
        C.faulty("run 1 when ();", 1, 12);
        C.faulty("run 1 when (1=1;", 1, 15);
        C.faulty("run 1 when 1=1);", 1, 14);
        C.faulty("run 1 when (1)=1;", 1, 13);
        C.faulty("run 1 when not;", 1, 14);
    }

    private static void sums() {
        C.sentence("E = T {(+ | -) T}.");
        C.odds("run 9;", 9);
        C.odds("run 9-3-2;", 4);
        C.odds("run 9-3+2;", 8);
        C.faulty("run +9;", 1, 4);
        C.faulty("run -9;", 1, 4);
        C.faulty("run 9+;", 1, 6);
        C.faulty("run 9--1;", 1, 6);
        C.faulty("run (9);", 1, 4);
    }

    private static void products() {
        C.sentence("T = U {* U | / NUMBER}.");
        C.odds("run 7*8;", 56);
        C.odds("run 70/8;", 8);
        C.odds("run 70/8*8;", 64);
        C.odds("run 70*8/8/7;", 10);
        C.odds("run 1+2*3;", 7);
        C.odds("run 20-9/3;", 17);
        C.faulty("run 7*;", 1, 6);
        C.faulty("run 7/;", 1, 6);
        for (String unit : new String[] {"kind", "row", "column", "beside", "below", "hour", "gone"}) {
            C.faulty("run 7/" + unit + ";", 1, 6);
        }
        C.faulty("run 7/(1);", 1, 6);
        C.faulty("run 7//1;", 1, 6);
        C.faulty("run *7;", 1, 4);
    }

    private static void units() {
        C.sentence("U = NUMBER | kind | row | column | beside | below | hour | gone.");
        C.odds("run 8;", 8);
        C.odds("run kind;", 3);
        C.odds("run row;", 1);
        C.odds("run column;", 2);
        C.odds("run beside;", 1);
        C.odds("run below;", 1);
        C.odds("run hour;", 7);
        C.odds("run gone;", 2);
        for (String word : new String[] {"run", "when", "or", "and", "not", "left", "above", "here"}) {
            C.faulty("run " + word + ";", 1, 4);
        }
    }

    private static void words() {
        C.sentence("letters as many as stand together are KEYWORDS (those told here) or none;");
        right("run1when1=1and not1=2or(1=1);", 1);
        C.faulty("runrow;", 1, 0);
        C.faulty("run rowrow;", 1, 4);
        C.faulty("run 1 whennot 1=1;", 1, 6);
        C.faulty("ru", 1, 0);
        C.faulty("runs 1;", 1, 0);
        C.faulty("r un 1;", 1, 0);
        C.faulty("Run 1;", 1, 0);
        C.faulty("RUN 1;", 1, 0);
        C.faulty("run rOw;", 1, 4);
        for (char c = 'a'; c <= 'z'; c++) {
            C.faulty("run" + c + " 1;", 1, 0);
            C.faulty("run" + (char) (c - 32) + " 1;", 1, 0);
        }
    }

    private static void digits() {
        C.sentence("digits as many as stand together NUMBERS of 1 to 4 digits or none;");
        C.odds("run 0;", 0);
        C.odds("run 9;", 9);
        C.odds("run 999;", 999);
        C.odds("run 9999/10;", 999);
        C.odds("run 0007;", 7);
        C.odds("run 1 when 9999=9998+1;run 2;", 1);
        C.faulty("run 10000;", 1, 4);
        C.faulty("run 00007;", 1, 4);
        C.faulty("run 1 2;", 1, 6);
        C.faulty("run 1/00000;", 1, 6);
        C.faulty("run 1/00001;", 1, 6);
        C.faulty("run 123456789012345678901234567890;", 1, 4);
    }

    private static void numbers() {
        C.sentence("NUMBERS of 1 to 4 digits");
        for (int v = 0; v <= 9999; v++) {
            int thousands = v - v % 1000;
            C.odds(thousands == 0 ? "run " + v + ";" : "run " + v + "-" + thousands + ";", v % 1000);
        }
    }

    /** What is no TOKEN can't stand anywhere, whatever may stand there. */
    private static void noneAnywhere() {
        C.sentence("letters as many as stand together are KEYWORDS (those told here) or none;");
        String[] tokens = ("run 1 + kind - 2 * 3 / 4 when not ( row < 2 and column > 1 or 1 = below ) or 7 = gone"
            + " and not hour < 5 ; run beside ;").split(" ");
        right(String.join(" ", tokens), 2);
        for (int at = 0; at <= tokens.length; at++) {
            StringBuilder ahead = new StringBuilder();
            StringBuilder behind = new StringBuilder();
            for (int i = 0; i < tokens.length; i++) {
                (i < at ? ahead : behind).append(tokens[i]).append(' ');
            }
            for (String none : new String[] {"12345", "00000", "runs", "Row", "x", "!", ",", "\t"}) {
                C.faulty(ahead + none + " " + behind, 1, ahead.length());
                C.faulty(ahead + none, 1, ahead.length());
            }
        }
    }

    /** Any byte behind a whole E: what can't stand is told at it, what can at what is missing behind it. */
    private static void signs() {
        C.sentence("; + - * / ( ) < = > .");
        for (int b = 0; b < 256; b++) {
            String text = "run 1 " + (char) b;
            if (b == ';') {
                right(text, 1);
            } else {
                boolean stands = b == ' ' || b == '\n' || b == '+' || b == '-' || b == '*' || b == '/';
                C.faulty(text, 1, stands ? 7 : 6);
            }
        }
    }

    private static void blanks() {
        C.sentence("Blanks (32, 10) between.");
        for (int b = 0; b < 256; b++) {
            String text = "run" + (char) b + "1;";
            boolean isLetter = b >= 'a' && b <= 'z' || b >= 'A' && b <= 'Z';
            if (b == 32 || b == 10 || b >= '0' && b <= '9') {
                right(text, 1);
            } else {
                C.faulty(text, 1, isLetter ? 0 : 3);
            }
        }
        right(" ", 0);
        right("\n", 0);
        right(" \n run \n 1 \n when \n ( \n 1 \n = \n 1 \n ) \n ; \n ", 1);
        right("run 1+1when(not(1<2)or row>3);", 1);
        right(" ".repeat(400), 0);
        right(" ".repeat(394) + "run 1;", 1);
    }

    private static void wrapping() {
        C.sentence("Ints, which wrap;");
        // 8192 times 8192 times 64 is 2 to the 32; times 32 it is the least int.
        C.odds("run 7+8192*8192*64;", 7);
        C.odds("run 8192*8192*32;", 0);
        C.odds("run 8192*8192*32-1;", 1000);
        C.odds("run 1 when 8192*8192*32<0;run 2;", 1);
        C.odds("run 1 when 8192*8192*32-1>0;run 2;", 1);
        C.odds("run 1 when 8192*8192*32=0-8192*8192*32;run 2;", 1);
        C.odds("run 1 when 8192*8192*32-1+1<0;run 2;", 1);
    }

    private static void towardsZero() {
        C.sentence("/ goes towards 0.");
        // 8251 * 3117 * 167 is -7 and 7319 * 1859 * 947 is -1, as ints wrap.
        C.odds("run 10+8251*3117*167;", 3);
        C.odds("run 10+8251*3117*167/2;", 7);
        C.odds("run 10+8251*3117*167/7;", 9);
        C.odds("run 10+8251*3117*167/8;", 10);
        C.odds("run 5+7319*1859*947/2;", 5);
        C.odds("run 7/2;", 3);
        C.odds("run 6/7;", 0);
        C.odds("run 7/1;", 7);
    }

    private static void firstByPlace() {
        C.sentence("FAULTS, the first by its place,");
        C.faulty("run 1/0 + ; !", 2, 6);
        C.faulty("run 1 + ; 1/0", 1, 8);
        C.faulty("run ! 1/0;", 1, 4);
        C.faulty("run 1/0 !", 2, 6);
        C.faulty("run 8/0/0;", 2, 6);
        C.faulty(SIXTEEN + "run 1/0;", 3, 96);
        C.faulty("run 1/0;" + SIXTEEN, 2, 6);
        C.faulty("run 1 when " + "(".repeat(9) + "1/0", 3, 19);
        C.faulty("run 1/0 when " + "(".repeat(9), 2, 6);
        // The last sign of all is the only fault of this one.
        C.faulty("run 1;".repeat(15) + "run 1 when 1=1;!", 1, 105);
    }

    private static void leastAtOnePlace() {
        C.sentence("at one place the least:");
        String open = "run 1 when " + "(".repeat(8);
        // A ninth ( or not that can't stand there: 1, not 3.
        C.faulty(open + "1=(", 1, 21);
        C.faulty(open + "1=not", 1, 21);
        C.faulty(open + "1=1(", 1, 22);
        C.faulty(open + "1=1 not", 1, 23);
        // A part by 0 that is no NUMBER: 1, not 2.
        C.faulty("run 1/00000;", 1, 6);
        // A seventeenth run in the midst of the sixteenth line: 1, not 3.
        C.faulty("run 1;".repeat(15) + "run run 1;", 1, 94);
        C.faulty("run 1;".repeat(15) + "run 1 run 1;", 1, 96);
    }

    private static void cantStand() {
        C.sentence("1 what can't stand there");
        C.faulty("!", 1, 0);
        C.faulty("run 1 when 1=1 2=2;", 1, 15);
        C.faulty("run 1 = 1;", 1, 6);
        C.faulty("run 1 and 1;", 1, 6);
        C.faulty("run 1 not;", 1, 6);
        C.faulty("run 1);", 1, 5);
        C.faulty(SIXTEEN + "1", 1, 96);
        C.faulty(SIXTEEN + "runs", 1, 96);
        C.faulty(SIXTEEN + ";", 1, 96);
    }

    private static void theEnd() {
        C.sentence("(the end: the text's length)");
        C.faulty("run", 1, 3);
        C.faulty("run ", 1, 4);
        C.faulty("run 1", 1, 5);
        C.faulty("run 1 \n\n ", 1, 9);
        C.faulty("run 1 when", 1, 10);
        C.faulty("run 1 when 1", 1, 12);
        C.faulty("run 1 when 1=", 1, 13);
        C.faulty("run 1 when 1=1", 1, 14);
        C.faulty("run 1 when (1=1", 1, 15);
        C.faulty("run 1 when not", 1, 14);
        C.faulty("run 1/", 1, 6);
        C.faulty("run 1*", 1, 6);
        C.faulty("run 1 " + " ".repeat(394), 1, 400);
        C.faulty("run 1" + "+1".repeat(197) + "1", 1, 400);
    }

    private static void partByZero() {
        C.sentence("2 (at the NUMBER) a part by 0.");
        C.faulty("run 1/0;", 2, 6);
        C.faulty("run 1 /\n 0;", 2, 9);
        C.faulty("run 1/00;", 2, 6);
        C.faulty("run 1/0000;", 2, 6);
        C.faulty("run 0/0;", 2, 6);
        C.faulty("run 1*2/1/0;", 2, 10);
        C.faulty("run 1 when 1/0=1;", 2, 13);
        C.faulty("run 1 when 1=1/0;", 2, 15);
        C.faulty("run 1/0", 2, 6);
        right("run 1/1;", 1);
        right("run 1/0001;", 1);
        right("run 1/9999;", 1);
        right("run 0/1*0-0;", 1);
    }

    private static void seventeenthLine() {
        C.sentence("3 (at its KEYWORD) the 17th line;");
        right(SIXTEEN, 16);
        right(SIXTEEN + "\n ", 16);
        C.faulty(SIXTEEN + "run 1;", 3, 96);
        C.faulty(SIXTEEN + " \nrun", 3, 98);
        C.faulty(SIXTEEN + SIXTEEN, 3, 96);
        PulledJersey x = new PulledJersey();
        C.due("sixteen", Checks.tell(x, SIXTEEN), 16);
        C.due("sixteen more, told anew", Checks.tell(x, SIXTEEN), 16);
        // The sixteenth line counts as any other.
        C.odds("run 1 when 1=2;".repeat(15) + "run 16;", 16);
    }

    private static void ninthOpen() {
        C.sentence("(at it) the 9th ( or not that is open.");
        right("run 1 when " + "(".repeat(8) + "1=1" + ")".repeat(8) + ";", 1);
        right("run 1 when " + "not ".repeat(8) + "1=1;", 1);
        right("run 1 when " + "not(".repeat(4) + "1=1" + ")".repeat(4) + ";", 1);
        C.faulty("run 1 when " + "(".repeat(9) + "1=1" + ")".repeat(9) + ";", 3, 19);
        C.faulty("run 1 when " + "not ".repeat(9) + "1=1;", 3, 43);
        C.faulty("run 1 when " + "not(".repeat(4) + "(1=1)))));", 3, 27);
        C.faulty("run 1 when " + "(not ".repeat(4) + "not 1=1))));", 3, 31);
        C.faulty("run 1 when " + "(".repeat(8) + "1=1 and not 1=1", 3, 27);
        C.faulty("run 1 when " + "(".repeat(8) + "1=1 or (", 3, 26);
        C.faulty("run 1 when not " + "(".repeat(7) + "not", 3, 22);
        // Those that are closed are open no more: the ( by its ), the not by its C.
        right("run 1 when " + "(1=1)and".repeat(20) + "(1=1);", 1);
        right("run 1 when " + "not 1=1 and ".repeat(20) + "not 1=1;", 1);
        right("run 1 when " + "((((((((1=1)))))))) or ".repeat(10) + "((((((((1=1))))))));", 1);
        right("run 1 when (((((((not 1=1 and not 1=1 or (1=1))))))));", 1);
        right("run 1 when " + "not ".repeat(8) + "1=1 and " + "not ".repeat(8) + "1=1;", 1);
        right("run 1 when " + "((((((((1=1))))))));run 1 when " + "((((((((1=1))))))));", 1 + 1);
        C.odds("run 1 when " + "not ".repeat(7) + "1=1;run 2;", 2);
        C.odds("run 1 when " + "not ".repeat(8) + "1=1;run 2;", 1);
    }
}
