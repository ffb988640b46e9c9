/** Texts with what is wrong in them and where; the place is marked by a caret in the text. */
public final class FaultTest {
    private static final String HEAD = "moves 2;men 3;";

    private FaultTest() {
    }

    public static void main(String[] args) {
        noToken();
        misplacedLines();
        misplacedTokens();
        tooMuch();
        deepFormulas();
        toldAlready();
        numbers();
        names();
        goodOnes();
        Calls.close("FaultTest");
    }

    /** The caret isn't part of the text; without one the fault is at the text's end. */
    private static void fault(int kind, String marked) {
        int caret = marked.indexOf('^');
        String text = marked.replace("^", "");
        MirrorDrill x = new MirrorDrill();
        Calls.tape(x, text);
        Calls.due("drill of " + marked, x.drill(), -1);
        Calls.due("fault of " + marked, x.fault(0), kind);
        Calls.due("place in " + marked, x.fault(1), caret < 0 ? text.length() : caret);
        Calls.due("tape behind " + marked, x.about(8), text.length());
    }

    private static void good(String text, int men) {
        MirrorDrill x = new MirrorDrill();
        Calls.tape(x, text);
        Calls.due("drill of " + text, x.drill(), men);
        Calls.due("no fault in " + text, x.fault(0), 0);
        Calls.due("no place in " + text, x.fault(1), -1);
        Calls.due("no tape behind " + text, x.about(8), 0);
    }

    private static void noToken() {
        fault(1, "^!");
        fault(1, "^Moves 2;");
        fault(1, "moves^\t2;");
        fault(1, "moves 2;men 3^,");
        fault(1, "moves ^2x;");
        fault(1, "moves ^12345;");
        fault(1, HEAD + "^abcdefghi 1;");
        fault(1, HEAD + "rule ^abcdefghi own;");
        fault(1, HEAD + "rule a own ^& left;");
        fault(1, HEAD + "rule a own + ^\u00e9;");
        fault(1, HEAD + "man 0 does ^1by a;");
        fault(1, HEAD + "ring^\u0000;");
        fault(1, HEAD + "rule a 1 ^9999x;");
    }

    private static void misplacedLines() {
        fault(2, "^men 3;");
        fault(2, "^ring;");
        fault(2, "^;");
        fault(2, "^7;");
        fault(2, "^walk 2;");
        fault(2, "moves 2;^moves 2;");
        fault(2, "moves 2;^ring;");
        fault(2, "moves 2;^rule a own;");
        fault(2, "moves 2;^edge 9;");
        fault(2, HEAD + "^men 3;");
        fault(2, HEAD + "^moves 3;");
        fault(2, HEAD + "ring;^ring;");
        fault(2, HEAD + "edge 1;^edge 1;");
        fault(2, HEAD + "worth 1 2;^worth 1 2;");
        fault(2, HEAD + "^does 1;");
        fault(2, HEAD + "^;");
        fault(2, HEAD + "rule a 1;rule b 1;rule c 1;rule d 1;rule e 1;rule f 1;ring;^rule a 1;");
    }

    private static void misplacedTokens() {
        fault(2, "moves");
        fault(2, "moves ");
        fault(2, "moves 2");
        fault(2, "moves 2 \n");
        fault(2, "moves ^;");
        fault(2, "moves 2 ^3;");
        fault(2, "moves ^two;");
        fault(2, "moves 2;men");
        fault(2, HEAD + "ring ^1;");
        fault(2, HEAD + "edge ^left;");
        fault(2, HEAD + "worth 1^;");
        fault(2, HEAD + "worth 1 1 ^100;");
        fault(2, HEAD + "worth ^;");
        fault(2, HEAD + "rule ^1 own;");
        fault(2, HEAD + "rule ^own own;");
        fault(2, HEAD + "rule ^moves own;");
        fault(2, HEAD + "rule a^;");
        fault(2, HEAD + "rule a left ^right;");
        fault(2, HEAD + "rule a left + ^;");
        fault(2, HEAD + "rule a left + ^not right;");
        fault(2, HEAD + "rule a left < own ^< right;");
        fault(2, HEAD + "rule a (left < own) < right ^= 1;");
        fault(2, HEAD + "rule a (left^;");
        fault(2, HEAD + "rule a left^);");
        fault(2, HEAD + "rule a (^);");
        fault(2, HEAD + "rule a ^- left;");
        fault(2, HEAD + "rule a ^b;");
        fault(2, HEAD + "rule a left and ^or own;");
        fault(2, HEAD + "rule a not");
        fault(2, HEAD + "rule a left");
        fault(2, HEAD + "man ^does 1;");
        fault(2, HEAD + "man 0 ^1;");
        fault(2, HEAD + "man 0 does ^by;");
        fault(2, HEAD + "man 0 does 1 by ^2;");
        fault(2, HEAD + "man 0 does 1 by ^own;");
        fault(2, HEAD + "man 0 does 1 cracked ^turned;");
        fault(2, HEAD + "man 0 does 1 turned ^turned;");
        fault(2, HEAD + "man 0 does 1 window 1 ^cracked;");
        fault(2, HEAD + "rule a own;man 0 does 1 turned ^by a;");
        fault(2, HEAD + "man 0 does 1 window^;");
    }

    private static void tooMuch() {
        String thirty = "own" + "+own".repeat(29);
        good(HEAD + "rule a " + thirty + ";", 3);
        fault(2, HEAD + "rule a " + thirty + "+^own;");
        fault(2, HEAD + "rule a " + thirty + "+^(own);");
        fault(2, HEAD + "rule a " + thirty + " and not ^5;");
        fault(2, HEAD + "rule a (" + "own+".repeat(28) + "own+^1);");
        String three = "rule a " + thirty + ";rule b " + thirty + ";rule c " + thirty + ";";
        good(HEAD + three, 3);
        fault(2, HEAD + three + "rule d ^1;");
        fault(2, HEAD + "rule a " + thirty + ";rule b " + thirty + ";rule c 1" + "+1".repeat(28) + ";rule d 1*^left;");
    }

    private static void deepFormulas() {
        good(HEAD + "rule a " + "(".repeat(7) + "1" + ")".repeat(7) + ";", 3);
        fault(2, HEAD + "rule a " + "(".repeat(7) + "^(1" + ")".repeat(8) + ";");
        good(HEAD + "rule a " + "not ".repeat(7) + "1;", 3);
        fault(2, HEAD + "rule a " + "not ".repeat(7) + "^not 1;");
        fault(2, HEAD + "rule a " + "not ".repeat(7) + "^(1);");
        fault(2, HEAD + "rule a " + "not(".repeat(3) + "not ^(1))));");
        good(HEAD + "rule a " + "not(".repeat(3) + "not 1)));", 3);
        fault(2, HEAD + "rule a " + "(".repeat(7) + "1 and ^not 1" + ")".repeat(7) + ";");
        good(HEAD + "rule a " + "(".repeat(6) + "(1) + (2) * (3)" + ")".repeat(6) + ";", 3);
    }

    private static void toldAlready() {
        fault(3, HEAD + "rule a own;rule ^a left;");
        fault(3, HEAD + "rule ab own;rule b own;rule ^ab !");
        fault(3, HEAD + "man 0 does 1;man ^0 does 1;");
        fault(3, HEAD + "man 2 does 1;man 1 does 0;man ^02 does 9;");
    }

    private static void numbers() {
        fault(4, "moves ^1;");
        fault(4, "moves ^5;");
        fault(4, "moves ^0;");
        fault(4, "moves 2;men ^0;");
        fault(4, "moves 2;men ^31;");
        fault(4, "moves 2;men ^9999 !");
        fault(4, HEAD + "edge ^2;");
        fault(4, HEAD + "worth ^100 1;");
        fault(4, HEAD + "worth 1 ^100;");
        fault(4, HEAD + "man ^3 does 1;");
        fault(4, HEAD + "man 2 does ^2;");
        fault(4, HEAD + "man 2 does 1 window ^2;");
        fault(4, HEAD + "man 2 does ^3 by b;");
    }

    private static void names() {
        fault(5, HEAD + "man 0 does 1 by ^a;rule a own;");
        fault(5, HEAD + "rule a own;man 0 does 1 by ^b;");
        fault(5, HEAD + "rule ab own;man 0 does 1 by ^a;");
    }

    private static void goodOnes() {
        good("", 0);
        good("  \n\n ", 0);
        good("moves 4;", 0);
        good("moves2;men30;", 30);
        good("\nmoves\n0003 ; men 0001;worth 99 0 099;", 1);
        good(HEAD + "rule abcdefgh(left)and(own<right);man0 does1 by abcdefgh turned cracked window1;", 3);
        good(HEAD + "man 2 does 1;man 0 does 0;ring;edge 1;rule r right;man 1 does 1 by r cracked;worth 3 3;", 3);
        good(HEAD + "rule a 9999;rule b 0000;rule aa 1;rule x 1;rule y 1;rule z not left and not own or not right;", 3);
    }
}
