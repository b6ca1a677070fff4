/** Promises 16 to 20: value, local, global, cell and touches of a trace. */
public final class ValueEdges {
    private static final Class<IndexOutOfBoundsException> NONE_SUCH = IndexOutOfBoundsException.class;
    private static final int[] FAR = {-2, Integer.MIN_VALUE, 100, 100000, Integer.MAX_VALUE};

    public static void main(String[] args) {
        values();
        asManyValues();
        locals();
        globals();
        cells();
        touchesWhatItCalls();
        touchesWhatItReads();
        touchesArrays();
        lastCalls();
        refused();
        Due.done("ValueEdges");
    }

    /** Promise 16: "The value of the WORK that has k others above it .. IndexOutOfBoundsException if there is none such." */
    private static void values() {
        Keeper x = Due.loaded("func f(n:int):int{return n*2;}test t{let a=11-(22*(33+f(44)));}");
        x.trace(0);
        int[] pushed = {11, 22, 33, 44};
        for (int n = 0; n <= pushed.length; n++) {
            Due.is("how many", x.traced(5), n);
            for (int k = 0; k < n; k++) {
                Due.is("value(" + k + ") of " + n, x.value(k), pushed[n - 1 - k]);
            }
            int many = n;
            Due.fails("behind the last", NONE_SUCH, () -> x.value(many));
            Due.fails("-1", NONE_SUCH, () -> x.value(-1));
            x.step(n < pushed.length ? 1 : 0);
        }
        x.step(1);
        Due.fails("the call has none", NONE_SUCH, () -> x.value(0));
        x.step(1);
        Due.is("its own", x.value(0), 44);
        Due.fails("no other", NONE_SUCH, () -> x.value(1));
        x.step(3);
        Due.is("what it gave", x.value(0), 88);
        Due.is("below it", x.value(3), 11);
        Due.fails("none below", NONE_SUCH, () -> x.value(4));
        x.step(100);
        Due.fails("none at its end", NONE_SUCH, () -> x.value(0));
        // "A bool is 1 or 0."
        Keeper y = Due.loaded("test t{check true|false|1<2|!true|1==2;}");
        y.trace(0);
        int[] tops = {1, 0, 1, 1, 2, 1, 1, 1, 0, 1, 1, 2, 0, 1};
        for (int top : tops) {
            y.step(1);
            Due.is("on top", y.value(0), top);
        }
    }

    /** Promise 16: as many values as twelve open signs and four parameters can make, in each of twenty calls. */
    private static void asManyValues() {
        StringBuilder text = new StringBuilder("func g(a:bool,b:bool,c:bool,d:bool):int{return 2+3*g(true,false,true,");
        text.append("false|true&4==5+6*g(true,false,true,".repeat(10)).append("true").append(")".repeat(11));
        Keeper x = Due.loaded(text + ";}test t{let n=g(true,true,true,true);}");
        x.trace(0);
        x.step(100000);
        Due.is("too many calls", x.traced(0), 4);
        Due.is("how many", x.traced(5), 2 + 3 + 10 * 8 + 1);
        Due.is("the top", x.value(0), 1);
        Due.is("the lowest", x.value(85), 2);
        Due.is("the lowest but one", x.value(84), 3);
        Due.fails("behind it", NONE_SUCH, () -> x.value(86));
    }

    /** Promise 17: "Local k of the WORK." */
    private static void locals() {
        Keeper x = Due.loaded("test t{" + Texts.times("let xN=5;", 10) + "p(true,7);xj=6;}proc p(a:bool,b:int){let c=b;}test u{}");
        x.trace(0);
        for (int k = 0; k < 10; k++) {
            Due.is("0 until it is set", x.local(k), 0);
            x.step(2);
            Due.is("set", x.local(k), 5);
        }
        Due.fails("10", NONE_SUCH, () -> x.local(10));
        Due.fails("-1", NONE_SUCH, () -> x.local(-1));
        x.step(3);
        Due.is("a", x.local(0), 1);
        Due.is("b", x.local(1), 7);
        Due.is("c", x.local(2), 0);
        Due.fails("3", NONE_SUCH, () -> x.local(3));
        x.step(2);
        Due.is("c is set", x.local(2), 7);
        x.step(1);
        Due.is("the test's again", x.local(9), 5);
        x.step(2);
        Due.is("the test's is set", x.local(9), 6);
        x.step(9);
        Due.is("at its end", x.local(9), 6);
        x.trace(1);
        Due.fails("no locals", NONE_SUCH, () -> x.local(0));
        // each call has its own, the deepest of twenty too
        Keeper y = Due.loaded("test t{let z=1;p(1);}proc p(n:int){let m=n*10;p(n+1);}");
        y.trace(0);
        y.step(100000);
        Due.is("twenty", y.traced(2), 20);
        Due.is("n", y.local(0), 20);
        Due.is("m", y.local(1), 200);
    }

    /** Promise 18: "Global k, as the trace has it." */
    private static void globals() {
        Keeper x = Due.loaded(Texts.times("global gN:int=1;", 9) + "global h:bool=true;test t{ga=-5;gi=999999;h=false;p();}proc p(){gb=8;}");
        x.trace(0);
        Due.is("the first", x.global(0), 1);
        Due.is("the last", x.global(9), 1);
        Due.fails("10", NONE_SUCH, () -> x.global(10));
        Due.fails("-1", NONE_SUCH, () -> x.global(-1));
        x.step(100);
        int[] due = {-5, 8, 1, 1, 1, 1, 1, 1, 999999, 0};
        for (int k = 0; k < 10; k++) {
            Due.is("global(" + k + ")", x.global(k), due[k]);
        }
        x.run(1, 1000);
        Due.is("a run leaves it", x.global(0), -5);
        Keeper y = Due.loaded("test t{}");
        y.trace(0);
        Due.fails("no globals", NONE_SUCH, () -> y.global(0));
    }

    /** Promise 19: "Cell k of an array, as the trace has it." */
    private static void cells() {
        Keeper x = Due.loaded("array a[32];array b[1];array c[32];array d[2];test t{a[0]=1;a[31]=2;b[0]=3;c[0]=4;c[31]=5;d[0]=6;d[1]=-7;}");
        x.trace(0);
        int[] sizes = {32, 1, 32, 2};
        for (int array = 0; array < 4; array++) {
            Due.is("0 at first", x.cell(array, sizes[array] - 1), 0);
        }
        x.step(100);
        int[] firsts = {1, 3, 4, 6};
        int[] lasts = {2, 3, 5, -7};
        for (int k = 0; k < 4; k++) {
            int array = k;
            Due.is("first of " + array, x.cell(array, 0), firsts[array]);
            Due.is("last of " + array, x.cell(array, sizes[array] - 1), lasts[array]);
            Due.fails("behind it", NONE_SUCH, () -> x.cell(array, sizes[array]));
            Due.fails("-1", NONE_SUCH, () -> x.cell(array, -1));
            Due.fails("-32", NONE_SUCH, () -> x.cell(array, -32));
        }
        Due.is("one between", x.cell(0, 30), 0);
        Due.fails("array 4", NONE_SUCH, () -> x.cell(4, 0));
        Due.fails("array -1", NONE_SUCH, () -> x.cell(-1, 0));
        Due.fails("array -1, a cell of array 0", NONE_SUCH, () -> x.cell(-1, 32));
        Keeper y = Due.loaded("test t{}");
        y.trace(0);
        Due.fails("no arrays", NONE_SUCH, () -> y.cell(0, 0));
    }

    private static String touched(Keeper x, int kind, int count) {
        StringBuilder all = new StringBuilder();
        for (int k = 0; k < count; k++) {
            all.append(x.touches(kind, k) ? 'y' : 'n');
        }
        return all.toString();
    }

    /** Promise 20, term 3: "A run TOUCHES the routines that it calls". */
    private static void touchesWhatItCalls() {
        Keeper x = Due.loaded(Texts.times("proc pN(){}", 13) + "proc q(){r();}proc r(){if(false){pa();}}proc last(){}"
                + "test t{pb();q();if(true){last();}else{pc();}}");
        x.trace(0);
        Due.is("none at first", touched(x, 2, 16), "nnnnnnnnnnnnnnnn");
        x.step(1);
        Due.is("pb", touched(x, 2, 16), "nynnnnnnnnnnnnnn");
        x.step(100);
        Due.is("at the end", touched(x, 2, 16), "nynnnnnnnnnnnyyy");
        Due.fails("16", NONE_SUCH, () -> x.touches(2, 16));
        x.run(1, 1000);
        for (int k = 0; k < 16; k++) {
            Due.is("the record, too", x.touched(0, 2, k), x.touches(2, k));
        }
    }

    /** Promise 20, term 3: "the globals that it reads .. (not the globals that it sets alone)". */
    private static void touchesWhatItReads() {
        Keeper x = Due.loaded(Texts.times("global gN:int=1;", 10) + "test t{ga=1;gb=gc;gd=gd;if(false){let x=ge;}gj=gj+1;check gi==2;let y=gf;}");
        x.trace(0);
        Due.is("none at first", touched(x, 0, 10), "nnnnnnnnnn");
        x.step(3);
        Due.is("gc is read", touched(x, 0, 10), "nnynnnnnnn");
        x.step(100);
        Due.is("at the end", touched(x, 0, 10), "nnyynnnnyy");
        Due.fails("10", NONE_SUCH, () -> x.touches(0, 10));
        x.run(1, 1000);
        for (int k = 0; k < 10; k++) {
            Due.is("the record, too", x.touched(0, 0, k), x.touches(0, k));
        }
    }

    /** Promise 20, term 3: "the arrays of which it reads or sets a cell, or tries to". */
    private static void touchesArrays() {
        String[] statements = {"let x=aa[0];", "aa[0]=1;", "let x=aa[1];", "aa[1]=1;", "let x=aa[-1];", "if(false){aa[0]=1;}",
            "aa[1/0]=1;", "aa[0]=1/0;", "aa[9]=1/0;"};
        String due = "yyyyynnnn";
        for (int k = 0; k < statements.length; k++) {
            Keeper x = Due.loaded("array aa[1];array ab[1];test t{" + statements[k] + "}");
            x.trace(0);
            x.step(100);
            Due.is(statements[k], touched(x, 1, 2), due.charAt(k) + "n");
            x.run(1, 1000);
            Due.is("the record of " + statements[k], x.touched(0, 1, 0), due.charAt(k) == 'y');
        }
        Keeper y = Due.loaded(Texts.times("array aN[1];", 4) + "test t{ad[0]=aa[0];}");
        y.trace(0);
        y.step(100);
        Due.is("the last one, too", touched(y, 1, 4), "ynny");
        Due.fails("4", NONE_SUCH, () -> y.touches(1, 4));
    }

    /** Promise 20, term 3: "(with a verdict of 4 also the last one)", and with a verdict of 3 not. */
    private static void lastCalls() {
        Keeper x = Due.loaded("test t{p(19);}proc p(n:int){if(n==0){q();}p(n-1);}proc q(){}");
        x.trace(0);
        x.step(100000);
        Due.is("a call too many", x.traced(0), 4);
        Due.is("q, too", touched(x, 2, 2), "yy");
        x.run(1, 1000);
        Due.is("in the record", x.touched(0, 2, 1), true);
        Keeper y = Due.loaded("test t{let i=0;while(i<3000){i=i+1;}q();}proc p(n:int){}proc q(){}");
        y.trace(0);
        y.step(100000);
        Due.is("no fuel", y.traced(0), 3);
        Due.is("not q", touched(y, 2, 2), "nn");
        y.run(1, 1000);
        Due.is("nor in the record", y.touched(0, 2, 1), false);
        Due.is("nothing at all", y.record(0, 3), 0);
        // the fuel comes first, also with twenty calls open
        Keeper z = Due.loaded("test t{let i=0;while(i<2980){i=i+1;}p(19);}proc p(n:int){if(n==0){q();}p(n-1);}proc q(){}");
        z.trace(0);
        z.step(100000);
        Due.is("no fuel", z.traced(0), 3);
        Due.is("not q", touched(z, 2, 2), "yn");
    }

    /** Promises 16 to 20: "IllegalStateException if there is no trace; IndexOutOfBoundsException ..", "also if there is no such kind". */
    private static void refused() {
        Keeper x = Due.loaded("global g:int=1;array b[2];proc p(){}test t{let n=1;}");
        Class<IllegalStateException> none = IllegalStateException.class;
        for (int far : FAR) {
            Due.fails("no trace", none, () -> x.value(far));
            Due.fails("no trace", none, () -> x.local(far));
            Due.fails("no trace", none, () -> x.global(far));
            Due.fails("no trace", none, () -> x.cell(far, 0));
            Due.fails("no trace", none, () -> x.touches(far, 0));
        }
        x.trace(0);
        x.step(1);
        for (int far : FAR) {
            Due.fails("value(" + far + ")", NONE_SUCH, () -> x.value(far));
            Due.fails("local(" + far + ")", NONE_SUCH, () -> x.local(far));
            Due.fails("global(" + far + ")", NONE_SUCH, () -> x.global(far));
            Due.fails("cell(" + far + ", 0)", NONE_SUCH, () -> x.cell(far, 0));
            Due.fails("cell(0, " + far + ")", NONE_SUCH, () -> x.cell(0, far));
            Due.fails("touches(" + far + ", 0)", NONE_SUCH, () -> x.touches(far, 0));
            Due.fails("touches(2, " + far + ")", NONE_SUCH, () -> x.touches(2, far));
        }
        for (int k = 0; k < 3; k++) {
            int kind = k;
            Due.fails("touches(" + kind + ", -1)", NONE_SUCH, () -> x.touches(kind, -1));
            Due.fails("touches(" + kind + ", 1)", NONE_SUCH, () -> x.touches(kind, 1));
            Due.is("touches(" + kind + ", 0)", x.touches(kind, 0), false);
        }
        Due.fails("a test is none of these kinds", NONE_SUCH, () -> x.touches(3, 0));
        Due.fails("kind -1", NONE_SUCH, () -> x.touches(-1, 0));
    }
}
