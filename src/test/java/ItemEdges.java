/** Promise 4, load: the edges of items, from term 1. */
public final class ItemEdges {
    /** An item of each kind; the name stands at the ^. */
    private static final String[] ITEMS =
            {"global ^:int=1;", "array ^[1];", "func ^():int{}", "proc ^(){}", "test ^{}"};

    public static void main(String[] args) {
        oneOrMore();
        asManyAsThereMayBe();
        numbered();
        unlikeNames();
        arrays();
        constants();
        parameters();
        blocks();
        Due.done("ItemEdges");
    }

    /** Promise 4, term 1: "ITEMS, one or more". */
    private static void oneOrMore() {
        Texts.answers("", 0);
        Texts.answers(" ", 1);
        Texts.answers("\n", 1);
        Texts.answers("#", 1);
        Texts.answers("# test a{}", 10);
        for (int kind = 0; kind < ITEMS.length; kind++) {
            Keeper x = Due.loaded(ITEMS[kind].replace("^", "a"));
            int due = kind < 3 ? kind : kind - 1;
            for (int what = 0; what < 4; what++) {
                Due.is(ITEMS[kind] + " about(" + what + ")", x.about(what), what == due ? 1 : 0);
            }
        }
    }

    /** Promise 4, term 1: "There are at most 10 globals, 4 arrays, 16 funcs and procs together, 12 tests". */
    private static void asManyAsThereMayBe() {
        int[] most = {10, 4, 16, 16, 12};
        for (int kind = 0; kind < ITEMS.length; kind++) {
            String all = Texts.times(ITEMS[kind].replace("^", "xN"), most[kind]);
            Texts.fine(all);
            // "an item .. too many (its name)"
            Texts.fault(all + ITEMS[kind].replace("^", "^y"));
            // the others have their own room
            for (int other = 0; other < ITEMS.length; other++) {
                boolean together = kind == other || (kind == 2 && other == 3) || (kind == 3 && other == 2);
                if (together) {
                    Texts.fault(all + ITEMS[other].replace("^", "^y"));
                } else {
                    Texts.fine(all + ITEMS[other].replace("^", "y"));
                }
            }
        }
        String routines = Texts.times("func fN():int{}", 5) + Texts.times("proc pN(){}", 11);
        Texts.fine(routines);
        Texts.fault(routines + "func ^y():int{}");
        Texts.fault(routines + "proc ^y(){}");
        Texts.fine(Texts.fullOfItems());
        for (String item : ITEMS) {
            Texts.fault(Texts.fullOfItems() + item.replace("^", "^y"));
        }
        Keeper x = Due.loaded(Texts.fullOfItems());
        int[] counts = {10, 4, 16, 12};
        for (int kind = 0; kind < 4; kind++) {
            Due.is("about(" + kind + ")", x.about(kind), counts[kind]);
            Due.is("the last one's first byte", x.code(kind, counts[kind] - 1, 0), kind < 2 ? kind : kind + 1);
        }
    }

    /** Promise 4, term 1: "each numbered from 0 in the order of the text". */
    private static void numbered() {
        Keeper x = Due.loaded("test z{check true;}proc y(){}array w[7];global v:int=3;func u():bool{}test t{}"
                + "global s:bool=true;proc r(a:int){}array q[9];");
        Due.is("global v", x.code(0, 0, 2), 3);
        Due.is("global s", x.code(0, 1, 1), 1);
        Due.is("array w", x.code(1, 0, 1), 7);
        Due.is("array q", x.code(1, 1, 1), 9);
        Due.is("proc y", x.code(2, 0, 0), 3);
        Due.is("func u", x.code(2, 1, 0), 2);
        Due.is("proc r", x.code(2, 2, 1), 1);
        Due.is("test z", x.code(3, 0, 6), 2);
        Due.is("test t", x.code(3, 1, 6), 13);
    }

    /** Promise 4, term 1: "all items' names are unlike", and "a name that there is already" is a fault. */
    private static void unlikeNames() {
        for (String first : ITEMS) {
            for (String second : ITEMS) {
                Texts.fault(first.replace("^", "same") + second.replace("^", "^same"));
                Texts.fine(first.replace("^", "some") + second.replace("^", "same"));
                Texts.fault(first.replace("^", "same") + "test other{}" + second.replace("^", "^same"));
            }
        }
    }

    /** Promise 4, term 1: "(of ints, 1 .. 32 cells)", and "an array's number that is not 1 .. 32" is a fault. */
    private static void arrays() {
        Texts.fault("array a[^0];");
        Texts.fault("array a[^000];");
        Texts.fine("array a[1];");
        Texts.fine("array a[01];");
        Texts.fine("array a[31];");
        Texts.fine("array a[32];");
        Texts.fault("array a[^33];");
        Texts.fault("array a[^256];");
        Texts.fault("array a[^257];");
        Texts.fault("array a[^999999];");
        Texts.fault("array a[^];");
        Texts.fault("array a[^-1];");
        Texts.fault("array a[^n];");
        Texts.fault("array a[1^+1];");
        // the number is the fault, whatever comes behind it
        Texts.fault("array a[^33");
        Texts.fault("array a[32^");
        Keeper x = Due.loaded("array a[1];array b[32];test t{}");
        x.trace(0);
        Due.is("the last of 1", x.cell(0, 0), 0);
        Due.is("the last of 32", x.cell(1, 31), 0);
        Due.fails("behind 1", IndexOutOfBoundsException.class, () -> x.cell(0, 1));
        Due.fails("behind 32", IndexOutOfBoundsException.class, () -> x.cell(1, 32));
    }

    /** Promise 4, term 1: "CONSTANT: a number, perhaps - ahead, true or false". */
    private static void constants() {
        Texts.fine("global a:int=0;global b:int=-0;global c:int=999999;global d:int=-999999;global e:int=- 1;");
        Texts.fine("global a:bool=true;global b:bool=false;");
        Texts.fault("global a:int=-^-1;");
        Texts.fault("global a:bool=-^true;");
        Texts.fault("global a:bool=-^false;");
        Texts.fault("global a:bool=^!true;");
        Texts.fault("global a:int=^(1);");
        Texts.fault("global a:int=^+1;");
        Texts.fault("global a:int=^b;");
        Texts.fault("global a:int=1^-1;");
        Texts.fault("global a:bool=true^&true;");
        Texts.fault("global a:int=-^;");
        Keeper x = Due.loaded("global b:int=-0;global d:int=-999999;global e:bool=true;global f:bool=false;test t{}");
        x.trace(0);
        int[] due = {0, -999999, 1, 0};
        for (int k = 0; k < due.length; k++) {
            Due.is("global(" + k + ")", x.global(k), due[k]);
        }
    }

    /** Promise 4, term 1: "PARAMETERS: none to four NAME : TYPE with commas". */
    private static void parameters() {
        String[] heads = {"func f(^):int{}", "proc f(^){}"};
        for (String head : heads) {
            Texts.fine(head.replace("^", ""));
            Texts.fine(head.replace("^", "a:int"));
            Texts.fine(head.replace("^", "a:int,b:bool,c:int,d:bool"));
            // "a parameter .. too many (its name)"
            Texts.fault(head.replace("^", "a:int,b:bool,c:int,d:bool,^e:int"));
            Texts.fault(head.replace("^", "a:int,b:bool,c:int,d:bool,^a:int"));
            Texts.fault(head.replace("^", "a:int,b:bool,c:int,d:bool,^"));
            Texts.fault(head.replace("^", "^,"));
            Texts.fault(head.replace("^", "a:int,^"));
            Texts.fault(head.replace("^", "a:int^;b:int"));
            Texts.fault(head.replace("^", "a^"));
            Texts.fault(head.replace("^", "a^,b:int"));
            Texts.fault(head.replace("^", "a:^true"));
            Texts.fault(head.replace("^", "^int:a"));
            Texts.fault(head.replace("^", "^1:int"));
        }
        Texts.fault("test t^(){}");
        Texts.fault("func f^:int{}");
        Texts.fault("proc f^{}");
    }

    /** Promise 4, term 1: "BLOCK: { STATEMENTS, none or some }", return "(in funcs)" and "(in procs)". */
    private static void blocks() {
        Texts.fine("func f():int{}proc p(){}test t{}");
        Texts.fine("test t{if(true){}if(true){}else{}while(false){}}");
        Texts.fine("func f():int{return 1;return 2;}proc p(){return;return;}");
        Texts.fault("test t{^return;}");
        Texts.fault("test t{^return 1;}");
        Texts.fault("func f():int{return^;}");
        Texts.fault("proc p(){return ^1;}");
        Texts.fault("func f():bool{if(true){return^;}}");
        Texts.fault("proc p(){while(true){return ^true;}}");
        // "break ; and continue ; (within a while's block)"
        String[] leave = {"break", "continue"};
        for (String word : leave) {
            Texts.fine("test t{while(true){" + word + ";}}");
            Texts.fine("test t{while(true){if(true){" + word + ";}else{" + word + ";}}}");
            Texts.fine("test t{while(true){while(true){}" + word + ";}}");
            Texts.fault("test t{^" + word + ";}");
            Texts.fault("test t{if(true){^" + word + ";}}");
            Texts.fault("test t{while(true){}^" + word + ";}");
            Texts.fault("test t{while(true){while(true){" + word + ";}" + word + ";}^" + word + ";}");
            Texts.fault("proc p(){while(true){}}proc q(){^" + word + ";}");
            Texts.fault("test t{while(true){" + word + " ^1;}}");
        }
    }
}
