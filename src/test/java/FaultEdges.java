import java.util.Arrays;
import java.util.List;

/** Promise 4, load: "The FAULT of a text is the first place .. of a token .. that can't come there", from term 1. */
public final class FaultEdges {
    private static final String ALL = "( ) { } [ ] , ; : = == != < <= + - * / % & | ! name 12 global array func proc test"
            + " int bool let if else while break continue return check true false ? abcdefghi 1234567";
    private static final String ITEM = "global array func proc test";
    private static final String STATEMENT = "name let if while check }";
    private static final String FACTOR = "- ! 12 true false name (";
    private static final String SIGNS = "| & == != < <= + - * / %";
    private static final String AFTER_COMPARISON = "| & + - * / %";

    public static void main(String[] args) {
        items();
        routines();
        statements();
        expressions();
        theEnd();
        theFirst();
        aheadOfMisfits();
        Due.done("FaultEdges");
    }

    /** Behind the text all tokens are tried: those that can come, and those that can't. */
    private static void behind(String text, String canCome) {
        List<String> can = Arrays.asList(canCome.split(" "));
        for (String token : ALL.split(" ")) {
            String next = text + " " + token;
            int answer = Due.load(new Keeper(), next);
            boolean isLast = token.equals("}") || token.equals(";");
            if (!can.contains(token)) {
                Due.is("load of " + next, answer, text.length() + 1);
            } else if (!isLast || answer != SuiteKeeper.NONE) {
                Due.is("load of " + next, answer, next.length());
            }
        }
    }

    /** Promise 4, term 1: "ITEMS, one or more: global NAME : TYPE = CONSTANT ; | array NAME [ NUMBER ] ; ..". */
    private static void items() {
        behind("", ITEM);
        behind("test a{}", ITEM);
        behind("global a:int=1;", ITEM);
        behind("array a[1];", ITEM);
        behind("func a():int{}", ITEM);
        behind("proc a(){}", ITEM);
        behind("global", "name");
        behind("global a", ":");
        behind("global a:", "int bool");
        behind("global a:int", "=");
        behind("global a:int=", "- 12 true false");
        behind("global a:int=-", "12");
        behind("global a:int=1", ";");
        behind("global a:bool=true", ";");
        behind("array", "name");
        behind("array a", "[");
        behind("array a[", "12");
        behind("array a[1", "]");
        behind("array a[1]", ";");
    }

    /** Promise 4, term 1: ".. | func NAME ( PARAMETERS ) : TYPE BLOCK | proc NAME ( PARAMETERS ) BLOCK | test NAME BLOCK". */
    private static void routines() {
        behind("func", "name");
        behind("func a", "(");
        behind("func a(", "name )");
        behind("func a(b", ":");
        behind("func a(b:", "int bool");
        behind("func a(b:int", ", )");
        behind("func a(b:int,", "name");
        behind("func a(b:int,c:int,d:int,e:int", ", )");
        behind("func a(b:int,c:int,d:int,e:int,", "none");
        behind("func a()", ":");
        behind("func a():", "int bool");
        behind("func a():int", "{");
        behind("func a():int{", STATEMENT + " return");
        behind("func a():int{return", FACTOR);
        behind("func a():int{return 1", SIGNS + " ;");
        behind("func a():int{return 1;", STATEMENT + " return");
        behind("proc", "name");
        behind("proc a", "(");
        behind("proc a()", "{");
        behind("proc a(b:bool)", "{");
        behind("proc a(){", STATEMENT + " return");
        behind("proc a(){return", ";");
        behind("test", "name");
        behind("test a", "{");
        behind("test a{", STATEMENT);
    }

    /** Promise 4, term 1: "STATEMENT: let NAME = EXPRESSION ; | NAME = EXPRESSION ; | ..". */
    private static void statements() {
        behind("test a{let", "name");
        behind("test a{let x", "=");
        behind("test a{let x=", FACTOR);
        behind("test a{let x=1", SIGNS + " ;");
        behind("test a{let x=1;", STATEMENT);
        behind("test a{x", "= [ (");
        behind("test a{x=", FACTOR);
        behind("test a{x=1", SIGNS + " ;");
        behind("test a{let x=1;x", "= [ (");
        behind("test a{x[", FACTOR);
        behind("test a{x[1", SIGNS + " ]");
        behind("test a{x[1]", "=");
        behind("test a{x[1]=", FACTOR);
        behind("test a{x[1]=1", SIGNS + " ;");
        behind("test a{x(", FACTOR + " )");
        behind("test a{x(1", SIGNS + " , )");
        behind("test a{x(1,", FACTOR);
        behind("test a{x(1,2,3,4,5,6", SIGNS + " , )");
        behind("test a{x()", ";");
        behind("test a{if", "(");
        behind("test a{if(", FACTOR);
        behind("test a{if(true", SIGNS + " )");
        behind("test a{if(true)", "{");
        behind("test a{if(true){", STATEMENT);
        behind("test a{if(true){}", STATEMENT + " else");
        behind("test a{if(true){}else", "{");
        behind("test a{if(true){}else{", STATEMENT);
        behind("test a{if(true){}else{}", STATEMENT);
        behind("test a{while", "(");
        behind("test a{while(", FACTOR);
        behind("test a{while(true", SIGNS + " )");
        behind("test a{while(true)", "{");
        behind("test a{while(true){", STATEMENT + " break continue");
        behind("test a{while(true){if(true){", STATEMENT + " break continue");
        behind("test a{while(true){if(true){}", STATEMENT + " break continue else");
        behind("test a{while(true){break", ";");
        behind("test a{while(true){continue", ";");
        behind("test a{while(true){}", STATEMENT);
        behind("test a{check", FACTOR);
        behind("test a{check true", SIGNS + " ;");
    }

    /** Promise 4, term 1: "EXPRESSION: PARTS with | between; .. a comparison: one SUM, or two ..; a factor: ..". */
    private static void expressions() {
        for (String sign : SIGNS.split(" ")) {
            behind("test a{let x=1" + sign, FACTOR);
        }
        for (String sign : "== != < <=".split(" ")) {
            behind("test a{let x=1" + sign + "2", AFTER_COMPARISON + " ;");
            behind("test a{let x=1+1" + sign + "2*2", AFTER_COMPARISON + " ;");
            behind("test a{let x=true&1" + sign + "2", AFTER_COMPARISON + " ;");
            behind("test a{let x=1" + sign + "2|true", SIGNS + " ;");
            behind("test a{let x=1" + sign + "2&true", SIGNS + " ;");
            behind("test a{let x=(1" + sign + "2)", SIGNS + " ;");
        }
        behind("test a{let x=-", FACTOR);
        behind("test a{let x=!", FACTOR);
        behind("test a{let x=-1", SIGNS + " ;");
        behind("test a{let x=true", SIGNS + " ;");
        behind("test a{let x=y", SIGNS + " ; [ (");
        behind("test a{let x=y[", FACTOR);
        behind("test a{let x=y[1", SIGNS + " ]");
        behind("test a{let x=y[1]", SIGNS + " ;");
        behind("test a{let x=y(", FACTOR + " )");
        behind("test a{let x=y(1", SIGNS + " , )");
        behind("test a{let x=y(1,", FACTOR);
        behind("test a{let x=y(1)", SIGNS + " ;");
        behind("test a{let x=y()", SIGNS + " ;");
        behind("test a{let x=(", FACTOR);
        behind("test a{let x=(1", SIGNS + " )");
        behind("test a{let x=(y", SIGNS + " ) [ (");
        behind("test a{let x=(1)", SIGNS + " ;");
    }

    /** Promise 4, term 1: "the end being one, whose place is the number of all signs". */
    private static void theEnd() {
        String tokens = "global g : int = - 5 ; array b [ 3 ] ; func f ( x : int , y : bool ) : int { return x + 1 ; } "
                + "proc p ( ) { return ; } test t { let a = f ( g , ! true ) * 2 ; b [ 0 ] = a ; p ( ) ; "
                + "if ( a <= 1 & a != 2 ) { a = 1 ; } else { while ( a < 2 ) { break ; continue ; } } check ( 1 ) == 1 ; }";
        int open = 0;
        StringBuilder text = new StringBuilder();
        for (String token : tokens.split(" ")) {
            text.append(token).append(' ');
            open += token.equals("{") ? 1 : token.equals("}") ? -1 : 0;
            boolean whole = open == 0 && (token.equals("}") || token.equals(";"));
            Texts.answers(text.toString(), whole ? SuiteKeeper.NONE : text.length());
            Texts.answers(text + "\n# }", whole ? SuiteKeeper.NONE : text.length() + 4);
        }
    }

    /** Promise 4, term 1: "the first place, going over it". */
    private static void theFirst() {
        Texts.fault("test a{let x=^$;}$");
        Texts.fault("test a{let x=^;}test a{}");
        Texts.fault("test a{}test ^a{let a=1;}");
        Texts.fault("array a[^0];array a[33];");
        Texts.fault("test a{let x=" + "(".repeat(11) + "^(" + "$");
        Texts.fault("test a{let x=" + "(".repeat(11) + "^$(");
        Texts.fault("proc p(a:int,^a:int,b:int,c:int,d:int){}");
        Texts.fault("test ^abcdefghi{let abcdefghi=1234567;}");
    }

    /** Promise 4, term 1: "If there is none, the MISFIT": a fault counts wherever the misfits stand. */
    private static void aheadOfMisfits() {
        Texts.fault("global g:int=true;test a{x=1;check 1;y();}^$");
        Texts.fault("test a{x=1;check 1;y();^");
        Texts.fault("test a{x=1;let x=^;}");
        Texts.fault("test a{check x;}test ^a{}");
        Texts.misfit("test a{^x=1;}test b{y=1;}");
    }
}
