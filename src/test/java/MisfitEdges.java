/** Promise 4, load: "the MISFIT, 5000 and the least place", from term 1. */
public final class MisfitEdges {
    private static final String ITEMS = "global g:int=1;global h:bool=true;array b[2];func f():int{}func k():bool{}proc p(){}";

    public static void main(String[] args) {
        namesThatMeanNothing();
        numbersOfParameters();
        procsAndFuncs();
        betweenSigns();
        aheadSigns();
        whatMustBeInt();
        whatMustBeBool();
        whatIsTold();
        theLeast();
        anyType();
        firstTokens();
        Due.done("MisfitEdges");
    }

    /** Promise 4, term 1: "a name that means nothing", each kind of name used in each way. */
    private static void namesThatMeanNothing() {
        // read, set, cell read, cell set, called in an expression, called in a statement
        String[] uses = {"let x=^;", "^=1;", "let x=^[0];", "^[0]=1;", "let x=^();", "^();"};
        String[] names = {"n", "g", "b", "f", "p", "t", "other"};
        String[] right = {"yynnnn", "yynnnn", "nnyynn", "nnnnyn", "nnnnny", "nnnnnn", "nnnnnn"};
        for (int name = 0; name < names.length; name++) {
            for (int use = 0; use < uses.length; use++) {
                String text = ITEMS + "test t{let n=1;" + uses[use].replace("^", "^" + names[name]) + "}";
                if (right[name].charAt(use) == 'y') {
                    Texts.fine(text.replace("^", ""));
                } else {
                    Texts.misfit(text);
                }
            }
        }
    }

    /** Promise 4, term 1: "a call with another number of parameters (its name)". */
    private static void numbersOfParameters() {
        for (int has = 0; has <= 4; has++) {
            String parameters = has == 0 ? "" : "pa:int" + Texts.times(",qN:int", has - 1);
            for (int given = 0; given <= 6; given++) {
                String some = given == 0 ? "" : "1" + ",1".repeat(given - 1);
                String[] texts = {"func f(" + parameters + "):int{}test t{let x=^f(" + some + ");}",
                    "proc f(" + parameters + "){}test t{^f(" + some + ");}",
                    "test t{^f(" + some + ");}proc f(" + parameters + "){}"};
                for (String text : texts) {
                    if (has == given) {
                        Texts.fine(text.replace("^", ""));
                    } else {
                        Texts.misfit(text);
                    }
                }
            }
        }
    }

    /** Promise 4, term 1: "a routine in an expression that is a proc, or in a statement that is a func (its name)". */
    private static void procsAndFuncs() {
        Texts.fine(ITEMS + "test t{let x=f();p();}");
        Texts.misfit(ITEMS + "test t{let x=1+^p();}");
        Texts.misfit(ITEMS + "test t{check ^p();}");
        Texts.misfit(ITEMS + "test t{if(^p()){}}");
        Texts.misfit(ITEMS + "test t{b[^p()]=1;}");
        Texts.misfit(ITEMS + "test t{^f();}");
        Texts.misfit(ITEMS + "test t{^k();}");
        Texts.misfit(ITEMS + "proc q(){^q(1);}");
        Texts.fine(ITEMS + "proc q(){q();}func r():int{return r();}");
        Texts.misfit(ITEMS + "func r():int{^r();}");
        Texts.misfit(ITEMS + "proc q(){let x=^q();}");
    }

    /** Promise 4, term 1: "Int must be: .. both sides of + - * / % < <=; bool: both sides of & and |; == and != .. alike". */
    private static void betweenSigns() {
        String[] signs = {"+", "-", "*", "/", "%", "<", "<=", "&", "|", "==", "!="};
        for (String sign : signs) {
            boolean alike = sign.equals("==") || sign.equals("!=");
            boolean bools = sign.equals("&") || sign.equals("|");
            boolean givesInt = "+-*/%".contains(sign);
            for (int kinds = 0; kinds < 4; kinds++) {
                boolean left = (kinds & 1) != 0;
                boolean right = (kinds & 2) != 0;
                boolean leftFits = alike || left == bools;
                boolean rightFits = alike ? left == right : right == bools;
                String text = "test t{let x=" + (leftFits ? "" : "^") + (left ? "true" : "7") + sign
                        + (leftFits && !rightFits ? "^" : "") + (right ? "true" : "7") + ";}";
                if (leftFits && rightFits) {
                    Texts.fine(text);
                    // what it gives: "+ - * / %: int; & | == != < <=: bool"
                    String given = text.substring(0, text.length() - 1);
                    Texts.fine(given + (givesInt ? "x=1;}" : "x=true;}"));
                    Texts.misfit(given + (givesInt ? "x=^true;}" : "x=^1;}"));
                } else {
                    Texts.misfit(text);
                }
            }
        }
        // from left to right: the left side of the second sign is what the first one gives
        Texts.misfit("test t{let x=1-2-^true;}");
        Texts.misfit("test t{let x=1*2/^true;}");
        Texts.misfit("test t{let x=true|false|^1;}");
        Texts.misfit("test t{let x=true&^1+2;}");
        Texts.misfit("test t{let x=^1+2&true;}");
        Texts.misfit("test t{let x=(1<2)==^3;}");
        Texts.misfit("test t{let x=1+2==^(1<2);}");
        Texts.fine("test t{let x=(1<2)==(2<1);}");
    }

    /** Promise 4, term 1: "what - stands ahead of" must be int, "what ! stands ahead of" bool. */
    private static void aheadSigns() {
        Texts.fine("test t{let x=-1;x=- -x;let y=!true;y=!!y;}");
        Texts.misfit("test t{let x=-^true;}");
        Texts.misfit("test t{let x=!^1;}");
        Texts.misfit("test t{let x=-^!true;}");
        Texts.misfit("test t{let x=!^-1;}");
        Texts.misfit("test t{let x=-^(1<2);}");
        Texts.misfit("test t{let x=!^(1+2);}");
        // a factor alone: ! 1 < 2 is ( ! 1 ) < 2
        Texts.misfit("test t{let x=!^1<2;}");
        Texts.misfit("test t{let x=^!true<2;}");
        Texts.misfit("test t{let x=-1;x=^!true;}");
        Texts.misfit("test t{let x=!true;x=^-1;}");
    }

    /** Promise 4, term 1: "Int must be: an index", and an array's cell. */
    private static void whatMustBeInt() {
        Texts.fine(ITEMS + "test t{b[g]=b[1]+b[f()];let x=b[0];x=1;}");
        Texts.misfit(ITEMS + "test t{b[^h]=1;}");
        Texts.misfit(ITEMS + "test t{let x=b[^h];}");
        Texts.misfit(ITEMS + "test t{b[^k()]=1;}");
        Texts.misfit(ITEMS + "test t{let x=b[^1<2];}");
        Texts.misfit(ITEMS + "test t{b[1]=^h;}");
        Texts.misfit(ITEMS + "test t{b[1]=^1==1;}");
        Texts.misfit(ITEMS + "test t{check ^b[1];}");
        Texts.misfit(ITEMS + "test t{let x=b[1];x=^true;}");
        Texts.misfit(ITEMS + "test t{check true==^b[1];}");
    }

    /** Promise 4, term 1: bool must be "the expressions of if, while, check". */
    private static void whatMustBeBool() {
        String[] places = {"if(^){}", "if(^){}else{}", "while(^){}", "check ^;"};
        String[] bools = {"true", "false", "h", "k()", "!h", "h&h", "h|h", "1==1", "h!=h", "1<2", "1<=2", "(h)", "n"};
        String[] ints = {"1", "g", "f()", "-1", "b[0]", "1+1", "1-1", "1*1", "1/1", "1%1", "(1)", "m"};
        for (String place : places) {
            String text = ITEMS + "test t{let n=true;let m=1;" + place + "}";
            for (String expression : bools) {
                Texts.fine(text.replace("^", expression));
            }
            for (String expression : ints) {
                Texts.misfit(text.replace("^", "^" + expression));
            }
        }
    }

    /** Promise 4, term 1: "what is assigned, a parameter, what is returned, a global's constant .. : the type told". */
    private static void whatIsTold() {
        Texts.misfit("global a:int=^true;");
        Texts.misfit("global a:int=^false;");
        Texts.misfit("global a:bool=^0;");
        Texts.misfit("global a:bool=^-1;");
        Texts.fine(ITEMS + "test t{g=2;h=false;let x=1;x=2;let y=true;y=false;}");
        Texts.misfit(ITEMS + "test t{g=^true;}");
        Texts.misfit(ITEMS + "test t{h=^1;}");
        Texts.misfit(ITEMS + "test t{let x=g;x=^h;}");
        Texts.misfit(ITEMS + "test t{let x=h;x=^g;}");
        Texts.misfit(ITEMS + "proc q(a:int,c:bool){a=^c;}");
        Texts.misfit(ITEMS + "proc q(a:int,c:bool){c=^a;}");
        Texts.fine("func f():int{return 1;}func k():bool{return true;}");
        Texts.misfit("func f():int{return ^true;}");
        Texts.misfit("func f():bool{return ^1;}");
        Texts.misfit("func f():bool{if(true){return true;}return f()==^1;}");
        String[] given = {"1", "true", "1", "true"};
        for (int wrong = 0; wrong < 4; wrong++) {
            StringBuilder call = new StringBuilder();
            for (int k = 0; k < 4; k++) {
                call.append(k == 0 ? "" : ",").append(k == wrong ? "^" + given[(k + 1) % 4] : given[k]);
            }
            Texts.misfit("proc q(a:int,c:bool,d:int,e:bool){}test t{q(" + call + ");}");
            Texts.misfit("test t{let x=q(" + call + ");}func q(a:int,c:bool,d:int,e:bool):int{}");
        }
        Texts.fine("proc q(a:int,c:bool,d:int,e:bool){}test t{q(1,true,1,true);}");
        // "a name, a call: what was told, a let's local that of its expression"
        Texts.misfit(ITEMS + "test t{let x=f();x=^true;}");
        Texts.misfit(ITEMS + "test t{let x=k();x=^1;}");
        Texts.misfit("test t{let x=f();x=^1;}func f():bool{return true;}");
    }

    /** Promise 4, term 1: "the least place", also if the greater one is come to first. */
    private static void theLeast() {
        Texts.misfit("test t{^x=y;}");
        Texts.misfit("test t{^x[y]=z;}");
        Texts.misfit("test t{^x(y);}");
        Texts.misfit(ITEMS + "test t{^p(y,1+true);}");
        Texts.misfit(ITEMS + "test t{let x=^f(y);}");
        Texts.misfit(ITEMS + "test t{let x=^p(y);}");
        Texts.misfit(ITEMS + "test t{^f(y);}");
        Texts.misfit("test t{let x=^true+y;}");
        Texts.misfit("test t{check ^1;}global a:int=true;");
        Texts.misfit("global a:int=^true;test t{check 1;}");
        Texts.misfit("proc q(a:int){}test t{q(^true);q(true);}test u{q();}");
        // the side's place is that of its first token, so it is lesser than what is right of it
        Texts.misfit("test t{let x=^(1+2)&y;}");
        Texts.misfit("test t{let x=^true*1+y;}");
    }

    /** Promise 4, term 1: "(What has a misfit within it has any type: also a call that is one, and a let's local ..)". */
    private static void anyType() {
        // each would misfit at a lesser place if it had the type that it would have without the misfit
        String[] ints = {"(1+^true)", "-^true", "f(^1)", "b[^true]", "(1+^other)", "(b[^other])", "-^other",
            "(1*f(^1))", "(^other)", "(1%^p())", "- -^true", "(1+2+^h)"};
        String[] bools = {"(1<^true)", "!^1", "(true&^1)", "(true|^1)", "(1==^true)", "(true!=^other)", "(1<=^h)",
            "!!^1", "(k(h)&^f(h))", "k(^g)", "(true==k(^g))"};
        String items = "global g:int=1;global h:bool=true;array b[2];func f(z:bool):int{}func k(z:bool):bool{}proc p(){}";
        String[] boolPlaces = {"check @;", "if(@){}", "while(@){}", "let x=!@;", "let x=@|h;", "let x=h&@;", "let x=h==@;",
            "let x=@==h;", "h=@;", "let x=k(@);", "let y=true;y=@;"};
        String[] intPlaces = {"b[@]=1;", "b[0]=@;", "let x=b[@];", "let x=@+1;", "let x=1-@;", "let x=@*1;", "let x=1/@;",
            "let x=@%1;", "let x=@<1;", "let x=1<=@;", "let x=-@;", "g=@;", "let x=1==@;", "let x=@!=1;", "let y=1;y=@;"};
        for (String place : boolPlaces) {
            for (String expression : ints) {
                Texts.misfit(items + "test t{" + place.replace("@", expression) + "}");
            }
        }
        for (String place : intPlaces) {
            for (String expression : bools) {
                Texts.misfit(items + "test t{" + place.replace("@", expression) + "}");
            }
        }
        Texts.misfit(items + "func r():int{return !^1;}");
        Texts.misfit(items + "func r():bool{return -^true;}");
        Texts.misfit(items + "test t{let x=^other;check x;x=1;x=true;b[x]=x;}");
    }

    /** Promise 4, term 1: "an expression (its first token; one in parentheses begins with the parenthesis)". */
    private static void firstTokens() {
        Texts.misfit("test t{check ^(1);}");
        Texts.misfit("test t{check ^((1)+2);}");
        Texts.misfit("test t{check ^(1)+2;}");
        Texts.misfit("test t{check ^-1;}");
        Texts.misfit("test t{check ^- -1;}");
        Texts.misfit("test t{check ^1+2*3;}");
        Texts.misfit("test t{let x=^(true)+1;}");
        Texts.misfit("test t{let x=1+^((true));}");
        Texts.misfit("test t{let x=1==^(true);}");
        Texts.misfit(ITEMS + "test t{check ^b[0];}");
        Texts.misfit(ITEMS + "test t{check ^f();}");
        Texts.misfit("test t{check  ^1 ;}");
        Texts.misfit("test t{check#1\n^1 ;}");
        Texts.misfit("global a:bool= ^- 1;");
    }
}
