/** Promise 11: why. */
public final class WhyTest {
    private static final String HEAD = "global ga:int=1;global gb:int=2;array aa[2];";
    private static final String ROUTINES = "func fa(n:int):int{return n+ga;}proc pa(){aa[0]=fa(gb);}";
    private static final String TESTS = "test ta{pa();check aa[0]==3;}test tb{}";

    public static void main(String[] args) {
        Keeper x = Due.loaded(HEAD + ROUTINES + TESTS);
        why(x, 1, 1);
        x.run(1, 1000);
        why(x, 0, 0);
        each();
        others();
        crashed();
        wrongInputs(x);
        Due.done("WhyTest");
    }

    private static void why(Keeper x, int first, int second) {
        Due.is("why(0)", x.why(0), first);
        Due.is("why(1)", x.why(1), second);
    }

    private static Keeper run(String next) {
        Keeper x = Due.loaded(HEAD + ROUTINES + TESTS);
        x.run(1, 1000);
        Due.reload(x, next);
        return x;
    }

    /** Touched by ta: ga, gb, aa, fa, pa in this order. */
    private static void each() {
        String all = HEAD + ROUTINES + TESTS;
        why(run(all), 0, 0);
        why(run(all.replace("ga:int=1", "ga:int=7")), 3, 0);
        why(run(all.replace("gb:int=2", "gb:int=7")), 4, 0);
        why(run(all.replace("aa[2]", "aa[3]")), 5, 0);
        why(run(all.replace("n+ga", "ga+n")), 6, 0);
        why(run(all.replace("fa(gb);", "fa(gb);gb=1;")), 7, 0);
        why(run(all.replace("aa[0]==3", "aa[0]==4")), 2, 0);
        why(run(all.replace("test tb{", "test tb{check true;")), 0, 2);
        why(run(all.replace("test tb", "test tc")), 0, 1);
        // the first in the record's order, whatever stands where in the text now
        why(run(ROUTINES + HEAD.replace("gb:int=2", "gb:int=3").replace("aa[2]", "aa[1]") + TESTS), 4, 0);
        // the test's bytes come ahead of what it touched
        why(run(all.replace("ga:int=1", "ga:int=7").replace("aa[0]==3", "aa[0]==4")), 2, 0);
    }

    private static void others() {
        String all = HEAD + ROUTINES + TESTS;
        // names that were touched and aren't there
        why(run(all.replace("ga", "gx")), 3, 0);
        why(run(all.replace("array aa[2];", "").replace("aa[0]=fa(gb);", "gb=fa(gb);").replace("aa[0]", "3")), 2, 0);
        // what isn't touched doesn't count, nor a global that is set alone
        Keeper x = Due.loaded("global g:int=1;global h:int=1;func f():int{}test t{if(false){g=f();}h=5;}");
        x.run(1, 1000);
        Due.is("two are set alone", x.record(0, 3), 0);
        Due.reload(x, "global g:int=9;global h:int=9;func f():int{return 3;}test t{if(false){g=f();}h=5;}");
        Due.is("it holds", x.why(0), 0);
        // and a record that held stays when a revision came between
        Due.reload(x, "test other{}");
        Due.is("no record of another test", x.why(0), 1);
        Due.reload(x, "global g:int=9;global h:int=9;func f():int{return 3;}test t{if(false){g=f();}h=5;}");
        Due.is("it holds again", x.why(0), 0);
    }

    private static void crashed() {
        Keeper x = Due.loaded("test a{}test b{}");
        x.run(1, 1);
        why(x, 0, 1);
        x.run(1, 1000);
        why(x, 0, 0);
    }

    private static void wrongInputs(Keeper x) {
        Class<IndexOutOfBoundsException> none = IndexOutOfBoundsException.class;
        Due.fails("test 2", none, () -> x.why(2));
        Due.fails("test -1", none, () -> x.why(-1));
        Due.fails("test greatest", none, () -> x.why(Integer.MAX_VALUE));
        Due.fails("no revision", IllegalStateException.class, () -> new Keeper().why(-1));
    }
}
