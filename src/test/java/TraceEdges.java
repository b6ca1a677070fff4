/** Promises 13 to 15, trace, step and traced, with term 9. */
public final class TraceEdges {
    public static void main(String[] args) {
        begins();
        theOneBeforeIsGone();
        steps();
        asARun();
        leavesAll();
        endings();
        stayingParameters();
        work();
        refused();
        Due.done("TraceEdges");
    }

    private static void all(String when, Keeper x, int... want) {
        for (int what = 0; what < 7; what++) {
            Due.is(when + ": traced(" + what + ")", x.traced(what), want[what]);
        }
    }

    /** Promise 15: "0 its verdict (NONE as long as it hasn't ended), 1 the fuel it took, .. 6 how many instructions were done". */
    private static void begins() {
        Keeper x = Due.loaded("test s{}test t{let n=1;}");
        x.trace(1);
        all("at first", x, -1, 0, 0, -1, 0, 0, 0);
        Due.is("no instruction", x.step(0), 0);
        all("behind none", x, -1, 0, 0, -1, 0, 0, 0);
        Due.is("one", x.step(1), 1);
        all("behind one", x, -1, 0, 0, -1, 5, 1, 1);
        Due.is("one", x.step(1), 1);
        all("ahead of the end", x, -1, 0, 0, -1, 7, 0, 2);
        Due.is("the end is one, too", x.step(1), 1);
        all("at its end", x, 0, 0, 0, -1, 8, 0, 3);
        Due.is("no more", x.step(1), 0);
        all("behind its end", x, 0, 0, 0, -1, 8, 0, 3);
        Keeper y = Due.loaded("test t{}");
        y.trace(0);
        Due.is("the shortest", y.step(100000), 1);
        all("the shortest", y, 0, 0, 0, -1, 1, 0, 1);
    }

    /** Promise 13: "A TRACE of a test begins (the one before is gone; also when another revision comes)." */
    private static void theOneBeforeIsGone() {
        Keeper x = Due.loaded("global g:int=3;array b[2];proc p(n:int){let m=n;b[1]=m;g=m;check false;}test s{p(7);}test t{let k=1;}");
        x.trace(0);
        x.step(100);
        Due.is("ended in p", x.traced(3), 0);
        Due.is("g", x.global(0), 7);
        Due.is("b", x.cell(0, 1), 7);
        x.trace(1);
        all("the other one", x, -1, 0, 0, -1, 0, 0, 0);
        Due.is("g", x.global(0), 3);
        Due.is("b", x.cell(0, 1), 0);
        Due.is("p isn't touched", x.touches(2, 0), false);
        Due.is("b isn't touched", x.touches(1, 0), false);
        Due.is("its local", x.local(0), 0);
        x.step(1);
        x.trace(1);
        all("the same one again", x, -1, 0, 0, -1, 0, 0, 0);
        Due.fails("no value of the one before", IndexOutOfBoundsException.class, () -> x.value(0));
        Due.is("a fault", Due.load(x, "test"), 4);
        Due.is("a fault leaves it", x.step(9), 3);
        Due.reload(x, "test s{}");
        Class<IllegalStateException> none = IllegalStateException.class;
        Due.fails("step", none, () -> x.step(0));
        Due.fails("traced", none, () -> x.traced(0));
        Due.fails("value", none, () -> x.value(0));
        Due.fails("local", none, () -> x.local(0));
        Due.fails("global", none, () -> x.global(0));
        Due.fails("cell", none, () -> x.cell(0, 0));
        Due.fails("touches", none, () -> x.touches(0, 0));
        x.trace(0);
        Due.is("one of this revision", x.step(9), 1);
    }

    /** Promise 14: "It does n instructions, or as many as there are till it ends: how many (0 when it has)"; n "0 .. 100000". */
    private static void steps() {
        // a round has 60 instructions and more, so that 100000 don't do: 3000 of them are 300000 or so
        Keeper x = Due.loaded("test t{let n=0;while(true){n=n" + "+1".repeat(50) + ";}}");
        x.trace(0);
        Due.is("100000", x.step(100000), 100000);
        Due.is("not ended", x.traced(0), SuiteKeeper.NONE);
        Due.is("done", x.traced(6), 100000);
        Due.is("99999", x.step(99999), 99999);
        Due.is("100000", x.step(100000), 100000);
        // true, unless, round, n, fifty numbers and +, set, jump: 106 a round, 3 ahead of it and 3 behind
        int all = 2 + 3000 * 106 + 3;
        Due.is("the rest", x.step(100000), all - 299999);
        Due.is("ended", x.traced(0), 3);
        Due.is("all of them", x.traced(6), all);
        Due.is("0 when it has", x.step(100000), 0);
        Due.is("0 when it has", x.step(0), 0);
        Keeper y = Due.loaded("test t{let n=1;n=2;}");
        for (int first = 0; first <= 5; first++) {
            y.trace(0);
            Due.is("first", y.step(first), first);
            Due.is("the rest", y.step(5), 5 - first);
        }
        y.trace(0);
        Due.is("one more than there are", y.step(6), 5);
    }

    /** Promise 13, term 9: "an instruction each, as a run would". */
    private static void asARun() {
        String text = "global g:int=1;array b[3];func f(n:int):int{g=g+n;return g*n;}proc p(n:int){check n<5;b[n%3]=f(n);}"
                + "test t{let i=0;while(i<9){p(i);i=i+1;if(b[1]==7){break;}}}";
        Keeper x = Due.loaded(text);
        x.run(1, 1000);
        x.trace(0);
        int done = 0;
        while (x.step(1) == 1) {
            done++;
        }
        Due.is("one by one", x.traced(6), done);
        Due.is("the verdict", x.traced(0), x.verdict(0));
        Due.is("the fuel", x.traced(1), x.record(0, 2));
        int touched = 0;
        int[] counts = {1, 1, 2};
        for (int kind = 0; kind < 3; kind++) {
            for (int k = 0; k < counts[kind]; k++) {
                Due.is("touches", x.touches(kind, k), x.touched(0, kind, k));
                touched += x.touches(kind, k) ? 1 : 0;
            }
        }
        Due.is("how many", touched, x.record(0, 3));
        Due.is("where its check stood", x.touched(0, 3, x.traced(3)), true);
    }

    /** Promise 13, term 9: "(nothing is recorded; run() leaves it as it is)". */
    private static void leavesAll() {
        Keeper x = Due.loaded("global g:int=1;proc p(n:int){g=n;g=g+n;}test t{p(3);}");
        x.trace(0);
        x.step(6);
        all("in p", x, -1, 1, 1, 0, 8, 2, 6);
        Due.is("no record", x.why(0), 1);
        Due.is("nothing is recorded", x.about(6), 0);
        Due.is("nothing is written", x.about(7), 0);
        x.run(1, 0);
        all("behind a crash", x, -1, 1, 1, 0, 8, 2, 6);
        x.run(3, 1000);
        all("behind a run", x, -1, 1, 1, 0, 8, 2, 6);
        Due.is("g", x.global(0), 3);
        Due.is("its local", x.local(0), 3);
        Due.is("a value", x.value(0), 3);
        Due.is("touched", x.touches(0, 0), true);
        x.step(100);
        Due.is("g", x.global(0), 6);
        Due.is("recorded once", x.about(6), 1);
        Due.fails("a trace is no run", IndexOutOfBoundsException.class, () -> x.slot(1, 0));
    }

    private static Keeper ended(String text) {
        Keeper x = Due.loaded(text);
        x.trace(0);
        for (int n = 0; n < 9; n++) {
            x.step(100000);
        }
        return x;
    }

    /** Promise 15, term 9: "all is as behind its last instruction, which took its values, left none, and whose place is the one behind it". */
    private static void endings() {
        all("its end", ended("test t{let x=5;}"), 0, 0, 0, -1, 8, 0, 3);
        all("a check", ended("test t{check false;check true;}"), 1, 0, 0, -1, 3, 0, 2);
        all("/", ended("test t{let x=9+8/0;}"), 2, 0, 0, -1, 16, 1, 4);
        all("%", ended("test t{let x=9+8%0;}"), 2, 0, 0, -1, 16, 1, 4);
        all("a round", ended("test t{while(true){}}"), 3, 3000, 0, -1, 5, 0, 4 * 3000 + 3);
        all("a cell", ended("test t{let x=9+b[8];}array b[2];"), 5, 0, 0, -1, 12, 1, 3);
        all("a cell to be set", ended("test t{b[8]=9;}array b[2];"), 5, 0, 0, -1, 12, 0, 3);
        // in a call the WORK stays that of the call
        all("a check in a call", ended("test t{let x=9+f(1);}func f(n:int):int{check n==2;return 1;}"), 1, 1, 1, 0, 10, 0, 7);
        all("/ in a call", ended("test t{let x=9+f(1);}func f(n:int):int{return 7+n/0;}"), 2, 1, 1, 0, 13, 1, 7);
        Keeper x = ended("test t{let x=9+f(1);}func f(n:int):int{return 7+n/0;}");
        Due.is("7 is below", x.value(0), 7);
        Due.is("its local", x.local(0), 1);
        Due.fails("9 is not of the WORK", IndexOutOfBoundsException.class, () -> x.value(1));
    }

    /** Promise 15, term 9: "a call for which there is no fuel, or that is one too many, leaves its parameters where they are". */
    private static void stayingParameters() {
        Keeper x = ended("test t{let i=0;while(i<3000){i=i+1;}let n=7+f(8,true,9);}func f(a:int,b:bool,c:int):int{}");
        Due.is("no fuel", x.traced(0), 3);
        Due.is("all of it", x.traced(1), 3000);
        Due.is("no call is open", x.traced(2), 0);
        Due.is("the test is at WORK", x.traced(3), SuiteKeeper.NONE);
        Due.is("four values", x.traced(5), 4);
        int[] values = {9, 1, 8, 7};
        for (int k = 0; k < 4; k++) {
            Due.is("value(" + k + ")", x.value(k), values[k]);
        }
        int call = 7 + 8 + 3 + 1 + 10 + 3 + 5 + 5 + 1 + 5;
        Due.is("the place behind it", x.traced(4), call + 2);
        Due.is("f isn't touched", x.touches(2, 0), false);
        Keeper y = ended("test t{let n=f(5,6);}func f(a:int,b:int):int{return a+f(b,a);}");
        all("one too many", y, 4, 21, 20, 0, 8, 3, 3 + 20 * 4);
        int[] others = {6, 5, 6};
        for (int k = 0; k < 3; k++) {
            Due.is("value(" + k + ")", y.value(k), others[k]);
        }
        Due.is("a of the last call", y.local(0), 6);
        Due.is("b of the last call", y.local(1), 5);
        Keeper z = ended("test t{p();}proc p(){p();}");
        all("without parameters", z, 4, 21, 20, 0, 2, 0, 21);
    }

    /** Promise 15, term 9: "Its WORK is the call that came last, or the test."; "3 the routine at WORK (NONE: the test)". */
    private static void work() {
        Keeper x = Due.loaded(Texts.times("proc pN(){}", 14) + "func f(n:int):int{pa();return n;}proc q(){let x=f(4);}test t{q();q();}");
        x.trace(0);
        all("the test", x, -1, 0, 0, -1, 0, 0, 0);
        x.step(1);
        all("q", x, -1, 1, 1, 15, 0, 0, 1);
        x.step(1);
        all("q with a value", x, -1, 1, 1, 15, 5, 1, 2);
        x.step(1);
        all("f took it", x, -1, 2, 2, 14, 0, 0, 3);
        x.step(1);
        all("pa", x, -1, 3, 3, 0, 0, 0, 4);
        x.step(1);
        all("back in f", x, -1, 3, 2, 14, 2, 0, 5);
        x.step(1);
        all("with a value", x, -1, 3, 2, 14, 4, 1, 6);
        x.step(1);
        all("back in q, with what f gave", x, -1, 3, 1, 15, 7, 1, 7);
        x.step(2);
        all("back in the test", x, -1, 3, 0, -1, 2, 0, 9);
        x.step(1);
        all("q again", x, -1, 4, 1, 15, 0, 0, 10);
        Keeper y = Due.loaded("test t{p(19);}proc p(n:int){if(0<n){p(n-1);}}");
        y.trace(0);
        y.step(2 + 19 * 8);
        Due.is("twenty calls are open", y.traced(2), 20);
        Due.is("n of the last one", y.local(0), 0);
        y.step(100);
        all("all are closed", y, 0, 20, 0, -1, 8, 0, 2 + 19 * 8 + 5 + 19 + 1);
    }

    /** Promises 13 to 15: their exceptions. */
    private static void refused() {
        Class<IndexOutOfBoundsException> noTest = IndexOutOfBoundsException.class;
        Class<IllegalStateException> none = IllegalStateException.class;
        Class<IllegalArgumentException> wrong = IllegalArgumentException.class;
        Keeper x = Due.loaded(Texts.fullOfItems());
        int[] tests = {-1, 12, Integer.MAX_VALUE, Integer.MIN_VALUE};
        for (int test : tests) {
            Due.fails("trace(" + test + ")", noTest, () -> x.trace(test));
            Due.fails("that was none", none, () -> x.traced(0));
            Due.fails("no revision", none, () -> new Keeper().trace(test));
        }
        int[] steps = {-1, 100001, Integer.MAX_VALUE, Integer.MIN_VALUE};
        int[] whats = {-1, 7, 8, Integer.MAX_VALUE, Integer.MIN_VALUE};
        for (int n : steps) {
            Due.fails("no trace", none, () -> x.step(n));
        }
        for (int what : whats) {
            Due.fails("no trace", none, () -> x.traced(what));
        }
        x.trace(11);
        for (int n : steps) {
            Due.fails("step(" + n + ")", wrong, () -> x.step(n));
        }
        for (int what : whats) {
            Due.fails("traced(" + what + ")", wrong, () -> x.traced(what));
        }
        x.step(9);
        for (int n : steps) {
            Due.fails("step(" + n + ") behind its end", wrong, () -> x.step(n));
        }
        Keeper y = Due.loaded("proc p(){}");
        Due.fails("no tests", noTest, () -> y.trace(0));
        Due.fails("no trace without one", none, () -> y.step(0));
    }
}
