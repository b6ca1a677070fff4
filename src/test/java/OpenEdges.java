/** Promise 4, load: "At most twelve of ( { [ - ! .. are open in one another", from term 1. */
public final class OpenEdges {
    private static final String BEHIND = "array b[1];func f(x:int):int{}proc p(x:int){}";

    public static void main(String[] args) {
        eachSign();
        upToItsEnd();
        closedOnes();
        itemsAndParameters();
        Due.done("OpenEdges");
    }

    /** A test in which n are open where the statements stand. */
    private static String within(int n, String statements) {
        return "test t" + "{if(true)".repeat(n - 1) + "{" + statements + "}".repeat(n) + BEHIND;
    }

    /** Promise 4, term 1: "the thirteenth that would be open" is a fault, whichever sign it is. */
    private static void eachSign() {
        String[] statements = {"b^[0]=1;", "let x=b^[0];", "p^(1);", "let x=f^(1);", "let x=^(1);",
            "let x=^-1;", "let x=^!true;", "if^(true){}", "while^(true){}", "check ^(true);", "p^($", "let x=^-$"};
        for (String statement : statements) {
            Texts.fault(within(12, statement));
            if (!statement.endsWith("$")) {
                Texts.fine(within(11, statement.replace("^", "")));
            }
        }
        Texts.fine(within(12, "let x=1-1;x=2+3*4;"));
        // a block is one, too: its parenthesis is closed by then
        Texts.fine("test t" + "{if(true)".repeat(11) + "{}" + "}".repeat(11));
        Texts.fault("test t" + "{while(true)".repeat(11) + "{while^(true){}" + "}".repeat(12));
        Texts.fault("test t" + "{if(true){}else".repeat(11) + "{if^(true){}" + "}".repeat(12));
        Texts.fine("test t" + "{if(true){}else".repeat(11) + "{}" + "}".repeat(11));
        // many of a kind within one another: with the test's block eleven of them
        Texts.fine("test t{let x=" + "(".repeat(11) + "1" + ")".repeat(11) + ";}");
        Texts.fault("test t{let x=" + "(".repeat(11) + "^(1" + ")".repeat(12) + ";}");
        Texts.fine("test t{let x=" + "-".repeat(11) + "1;}");
        Texts.fault("test t{let x=" + "-".repeat(11) + "^-1;}");
        Texts.fine("test t{let x=" + "!".repeat(11) + "true;}");
        Texts.fault("test t{let x=" + "!".repeat(11) + "^!true;}");
        Texts.fine("test t{let x=" + "b[".repeat(11) + "0" + "]".repeat(11) + ";}" + BEHIND);
        Texts.fault("test t{let x=" + "b[".repeat(11) + "b^[0" + "]".repeat(12) + ";}" + BEHIND);
        Texts.fine("test t{let x=" + "f(".repeat(11) + "0" + ")".repeat(11) + ";}" + BEHIND);
        Texts.fault("test t{let x=" + "f(".repeat(11) + "f^(0" + ")".repeat(12) + ";}" + BEHIND);
        Texts.fine("test t{p(" + "f(".repeat(10) + "0" + ")".repeat(11) + ";}" + BEHIND);
        Texts.fault("test t{p(" + "f(".repeat(10) + "f^(0" + ")".repeat(12) + ";}" + BEHIND);
        Texts.fault("test t{b[" + "-".repeat(10) + "^-1]=1;}" + BEHIND);
        Texts.fine("test t{b[" + "-".repeat(10) + "1]=" + "-".repeat(11) + "1;}" + BEHIND);
    }

    /** Promise 4, term 1: "(the last two of a factor, up to its end)". */
    private static void upToItsEnd() {
        Texts.fine(within(11, "let x=-1+(1)--1*-1;"));
        Texts.fine(within(11, "let x=!true|!true&(true)==!false;"));
        Texts.fault(within(11, "let x=-1+(^-1);"));
        Texts.fault(within(11, "let x=-^(1);"));
        Texts.fault(within(11, "let x=-f^(1);"));
        Texts.fault(within(11, "let x=-b^[0];"));
        Texts.fault(within(11, "let x=-^-1;"));
        Texts.fault(within(11, "let x=!^!true;"));
        Texts.fine(within(10, "let x=-f(1)-(-1)+f(-1)-b[-0];"));
        Texts.fault(within(10, "let x=-f(^-1);"));
        Texts.fault(within(10, "let x=!(b^[0]==1);"));
        // - between two parts opens nothing
        Texts.fine(within(12, "let x=1-1-1-1-1-1-1-1-1-1-1-1-1-1;"));
    }

    /** Promise 4, term 1: "open in one another": what is closed no longer counts. */
    private static void closedOnes() {
        Texts.fine(within(11, "let x=(1)+(2)+(3)+b[0]+b[0]+f(1)+f(2)-(4);p(1);p(2);b[0]=(1);if(true){}while(false){}"));
        Texts.fine("test t{" + "if(true){}".repeat(40) + "}");
        Texts.fine("test t{let x=0;" + "x=-x+(x);".repeat(20) + "}");
        Texts.fault(within(11, "if(true){}else{p^(1);}"));
        // and nothing of a text that had a fault does
        Keeper x = new Keeper();
        Due.is("eleven left open", Due.load(x, "test t{let x=" + "(".repeat(10) + "$"), 23);
        Due.is("eleven more", Due.load(x, "test t{let x=" + "(".repeat(11) + "1" + ")".repeat(11) + ";}"), SuiteKeeper.NONE);
    }

    /** Promise 4, term 1: "those of items and parameters, too". */
    private static void itemsAndParameters() {
        String deep = "{if(true)".repeat(11) + "{" + "}".repeat(12);
        String deeper = "{if(true)".repeat(11) + "{if^(true){}" + "}".repeat(12);
        Texts.fine("array b[1];test t" + deep + "proc p(a:int)" + deep + "func f(a:int,c:bool):int" + deep);
        Texts.fault("array b[1];test t" + deeper);
        Texts.fault("test t{}proc p(a:int)" + deeper);
        Texts.fault("test t{}func f():int" + deeper);
        Texts.fine("global g:int=-1;test t" + deep);
    }
}
