/** Promise 4, load: the edges of signs and tokens, from term 1. */
public final class TokenEdges {
    private static final String[] WORDS = {"global", "array", "func", "proc", "test", "int", "bool", "let", "if",
        "else", "while", "break", "continue", "return", "check", "true", "false"};

    public static void main(String[] args) {
        fullTexts();
        betweenTokens();
        names();
        numbers();
        theLongest();
        remarks();
        signsThatBeginNone();
        words();
        Due.done("TokenEdges");
    }

    /** Promise 4, term 1: "TEXTS have at most 1500 signs". */
    private static void fullTexts() {
        Texts.fine("test a{" + " ".repeat(1492) + "}");
        Texts.fine("test a{let x=1" + "+1".repeat(742) + ";}");
        // "the end being one, whose place is the number of all signs"
        Texts.answers("test a{" + "\n".repeat(1493), 1500);
        Texts.answers("test a{}" + " ".repeat(1491) + "$", 1499);
        Texts.answers(" ".repeat(1499) + "a", 1499);
        Texts.answers(" ".repeat(1500), 1500);
        Texts.answers(";".repeat(1500), 0);
        // "the MISFIT, 5000 and the least place"
        Texts.answers("test a{" + " ".repeat(1488) + "x();}", 6495);
        Keeper x = Due.loaded("test a{let x=1" + "+1".repeat(742) + ";}");
        int size = 5 + 6 * 742 + 2 + 1;
        Due.is("its code's size, low", x.code(3, 0, 4), size % 256);
        Due.is("its code's size, high", x.code(3, 0, 5), size / 256);
        Due.is("its code's last byte", x.code(3, 0, 6 + size - 1), 13);
        Due.is("no names", x.code(3, 0, 6 + size), 0);
        Due.is("behind it", x.code(3, 0, 6 + size + 1), SuiteKeeper.NONE);
    }

    /** Promise 4, term 1: "TOKENS, blanks and line ends between them where needed". */
    private static void betweenTokens() {
        String tokens = "global g : int = - 5 ; array b [ 3 ] ; func f ( x : int , y : bool ) : int { return x + 1 ; } "
                + "proc p ( ) { return ; } test t { let a = f ( g , ! true ) * 2 / 3 % 4 - 5 ; b [ 0 ] = a ; p ( ) ; "
                + "if ( a <= 1 & a != 2 | a == 3 ) { a = 1 ; } else { while ( a < 2 ) { break ; continue ; } } "
                + "check false == true ; check 1 == 1 ; }";
        Keeper plain = Due.loaded(tokens);
        String dense = tokens;
        for (int k = dense.length() - 2; k > 0; k--) {
            boolean letters = Character.isLetter(dense.charAt(k - 1)) && Character.isLetter(dense.charAt(k + 1));
            if (dense.charAt(k) == ' ' && !letters) {
                dense = dense.substring(0, k) + dense.substring(k + 1);
            }
        }
        Due.is("a word and a number need no blank", dense.contains("check1==1"), true);
        String[] others = {dense, tokens.replace(" ", "\n"), tokens.replace(" ", "  "), tokens.replace(" ", "#1\n"),
            "\n " + tokens + "\n", "#\n" + tokens + "#"};
        for (String other : others) {
            Keeper x = Due.loaded(other);
            for (int kind = 0; kind < 4; kind++) {
                Due.is("kind " + kind + " of " + other, x.mark(kind, 0), plain.mark(kind, 0));
            }
        }
        Texts.fault("^te st a{}");
        Texts.fault("^tes\nt a{}");
        Texts.fault("test a{let x=1 ^2;}");
        Texts.fault("test a{let x=1\n^2;}");
        Texts.fault("test a{check 1^= =1;}");
        Texts.fault("test a{check 1< ^=2;}");
        Texts.fault("test a{check true^! =false;}");
        Texts.fault("test a{let x^==1;}");
    }

    /** Promise 4, term 1: "NAMES, one to eight small letters", and a "name .. that is too long" is a fault. */
    private static void names() {
        String[] places = {"global ^:int=1;", "array ^[1];", "func ^():int{}", "proc ^(){}", "test ^{}",
            "proc p(^:int){}", "proc p(x:int,^:int){}", "test a{let ^=1;}"};
        for (String place : places) {
            Texts.fine(place.replace("^", "z"));
            Texts.fine(place.replace("^", "abcdefgh"));
            Texts.fault(place.replace("^", "^abcdefghi"));
            Texts.fault(place.replace("^", "^" + "z".repeat(300)));
            Texts.fault(place.replace("^", "abcdefgh^I"));
            Texts.fault(place.replace("^", "q^1"));
        }
        String[] uses = {"test a{^=1;}", "test a{^[0]=1;}", "test a{^();}", "test a{check ^;}", "test a{check 1+^[0];}",
            "test a{check 1+^();}"};
        for (String use : uses) {
            Texts.misfit(use.replace("^", "^abcdefgh"));
            Texts.fault(use.replace("^", "^abcdefghi"));
        }
        Texts.fine("test abcdefgh{}test abcdefgi{}test ijklmnop{}test qrstuvwx{}test yz{}test y{}test yzy{}");
        Texts.fault("test abcdefgh{}test ^abcdefgh{}");
        Texts.answers("a".repeat(1500), 0);
        Keeper x = Due.loaded("test abcdefgh{}test yz{}");
        Due.reload(x, "test n{}");
        Due.is("the eighth letter", x.gone(0, 7), 'h');
        Due.is("behind it", x.gone(0, 8), SuiteKeeper.NONE);
        Due.is("the last letter of all", x.gone(1, 1), 'z');
    }

    /** Promise 4, term 1: "NUMBERS, one to six digits (as many signs as there are)", and one "that is too long". */
    private static void numbers() {
        String[] places = {"global a:int=^;", "global a:int=-^;", "test a{let x=^;}", "test a{let x=-^;}",
            "test a{let x=1+^;}", "array b[1];test a{b[^]=1;}"};
        for (String place : places) {
            Texts.fine(place.replace("^", "0"));
            Texts.fine(place.replace("^", "000000"));
            Texts.fine(place.replace("^", "999999"));
            Texts.fault(place.replace("^", "^0000000"));
            Texts.fault(place.replace("^", "^1000000"));
            Texts.fault(place.replace("^", "^" + "9".repeat(300)));
            Texts.fault(place.replace("^", "123456^a"));
        }
        Texts.fine("array b[000032];");
        Texts.fault("array b[^0000032];");
        Texts.answers("9".repeat(1500), 0);
        Keeper x = Due.loaded("global a:int=-999999;global b:int=0000;test t{let x=123456;x=999999;x=000010;x=789;x=0;}");
        x.trace(0);
        int[] due = {123456, 999999, 10, 789, 0};
        for (int number : due) {
            x.step(2);
            Due.is("its number", x.local(0), number);
        }
        Due.is("the least", x.global(0), -999999);
        Due.is("many zeros", x.global(1), 0);
    }

    /** Promise 4, term 1: "( ) { } [ ] , ; : = == != < <= + - * / % & | ! (the longest that stands there)". */
    private static void theLongest() {
        Texts.fault("test a{let x=1==^=1;}");
        Texts.fault("test a{let x=1!=^=1;}");
        Texts.fault("test a{let x=1<=^=1;}");
        Texts.fault("test a{let x=1<^<1;}");
        Texts.fault("test a{let x=^!=true;}");
        Texts.fault("test a{let x=true^!!=true;}");
        Texts.fault("global a:int^==1;");
        Texts.fault("array b[1];test a{b[0]^==1;}");
        Texts.fault("test a{x^==1;}");
        Texts.fault("test a{x^<=1;}");
        Texts.fine("test a{let x=!true;x=!!true;x=true==!true;x=true!=!true;}");
        Texts.fine("test a{let x=-1;x=1--1;x=(1+-1);}");
        Texts.fine("test a{let x=1<-1;x=1<=-1;x=1==-1;x=1!=-1;}");
        Keeper x = Due.loaded("test a{let x=1<2;x=1<=2;x=1==2;x=1!=2;}");
        int[] codes = {25, 26, 23, 24};
        for (int k = 0; k < codes.length; k++) {
            Due.is("comparison " + k, x.code(3, 0, 6 + 13 * k + 10), codes[k]);
        }
        // names, too: a word with a letter more is a name
        Texts.misfit("test a{let x=^truex;}");
        Texts.misfit("test a{^lets=1;}");
        Texts.misfit("test a{^iff(1);}");
        Texts.fault("test a{if(true){}elsex^{}}");
        Texts.fault("test a{let x=true^1;}");
        Texts.fault("test a{let x=1^true;}");
    }

    /** Promise 4, term 1: "what is behind a # up to the line's end doesn't count". */
    private static void remarks() {
        Texts.fine("test a{}#");
        Texts.fine("test a{}#$ABC abcdefghijkl 12345678 {{{ # test b{");
        Texts.fine("#\ntest#\na#\n{#\n}#\n#");
        Texts.fine("test a{#}\n}");
        Texts.fault("test a{#}^");
        Texts.fault("test a{# }\n ^");
        Texts.fault("test a{}#\n^x");
        Texts.fault("test a{}# x\n# x\n^}");
        Texts.fault("test a#\n^b{}");
        Texts.fault("^te#\nst a{}");
        Texts.fault("test a{let x=1#\n^2;}");
        Texts.fault("test a{let x=1^=#\n=2;}");
        Texts.fault("#test a{}^");
        Texts.fine("test a{let x=1;#x=true;\nx=2;}");
    }

    /** Promise 4, term 1: a "sign that begins none" is a fault. */
    private static void signsThatBeginNone() {
        String tokens = "abcdefghijklmnopqrstuvwxyz0123456789(){}[],;:=<+-*/%&|!#";
        for (char sign = 33; sign <= 126; sign++) {
            if (tokens.indexOf(sign) < 0) {
                Texts.answers(sign + "test a{}", 0);
                Texts.answers("test a{}" + sign, 8);
                Texts.answers("test " + sign + "a{}", 5);
                Texts.answers("test a{let x=1" + sign + "1;}", 14);
                Texts.answers("test a{let x=" + sign + "1;}", 13);
                Texts.fine("test a{}#" + sign);
            }
        }
    }

    /** Promise 4, term 1: "The names global array .. true false are WORDS; they name nothing." */
    private static void words() {
        for (String word : WORDS) {
            Texts.answers("test " + word + "{}", 5);
            Texts.answers("global " + word + ":int=1;", 7);
            Texts.answers("array " + word + "[1];", 6);
            Texts.answers("func " + word + "():int{}", 5);
            Texts.answers("proc " + word + "(){}", 5);
            Texts.answers("proc p(" + word + ":int){}", 7);
            Texts.answers("test a{let " + word + "=1;}", 11);
            if (!word.equals("true") && !word.equals("false")) {
                Texts.answers("test a{let x=" + word + ";}", 13);
                Texts.answers("test a{let x=1+" + word + "(1);}", 15);
            }
            if (word.length() < 8) {
                Texts.fine("test " + word + "x{}");
            }
            Texts.fine("test " + word.substring(0, word.length() - 1) + "{}");
            Texts.fine("test " + word.substring(1) + "{}");
        }
    }
}
