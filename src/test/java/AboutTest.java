/** Promise 5: about. */
public final class AboutTest {
    private static final String TEXT = "global g:int=1;global h:bool=true;array a[3];func f():int{return g;}"
            + "proc p(){}proc q(){}test s{check f()==1;}test t{p();p();}test u{a[0]=1;}test v{check h;}";

    public static void main(String[] args) {
        counts();
        afterRuns();
        times();
        wrongInputs();
        Due.done("AboutTest");
    }

    private static void all(Keeper x, int... want) {
        for (int what = 0; what < want.length; what++) {
            Due.is("about(" + what + ")", x.about(what), want[what]);
        }
    }

    private static void counts() {
        all(Due.loaded(TEXT), 2, 1, 3, 4, 1, 4, 0, 0, 0, 0, 0, 1, 0, 0, 0);
        all(Due.loaded("global g:int=1;"), 1, 0, 0, 0, 1, 0, 0, 0, 0, 0, 0, 1, 0, 0, 0);
    }

    private static void afterRuns() {
        Keeper x = Due.loaded("test s{}test t{}");
        // an item's entry of one letter and 8 bytes has 15 bytes, a record of it 16
        Due.is("run", x.run(1, 1000), 2);
        all(x, 0, 0, 0, 2, 1, 0, 2, 3, 2, 62, 0, 1, 0, 2, 2);
        Due.is("run of nothing", x.run(1, 1000), 0);
        all(x, 0, 0, 0, 2, 1, 0, 2, 3, 0, 62, 0, 1, 0, 0, 0);
        Due.reload(x, "test t{check true;}");
        all(x, 0, 0, 0, 1, 2, 1, 2, 3, 0, 62, 0, 1, 1, 0, 0);
        Due.is("run", x.run(1, 1000), 1);
        // its item has 11 bytes: 18 in the log; the third block (62 is one behind the first) again
        all(x, 0, 0, 0, 1, 2, 0, 3, 4, 1, 96, 0, 1, 1, 1, 1);
        Due.reload(x, "test t{check true;}");
        Due.is("it stays when another revision comes", x.about(8), 1);
        Due.is("no run in this revision", x.about(13), 0);
        Due.is("no run in this revision", x.about(14), 0);
    }

    private static void times() {
        Keeper x = Due.loaded("test a{let i=0;while(i<5){i=i+1;}}test b{}test c{}test d{}");
        Due.is("run", x.run(2, 1000), 4);
        // 6 on the one worker, 1 and 1 and 1 on the other
        Due.is("the last one ended", x.about(13), 6);
        Due.is("the longest", x.about(14), 6);
        Due.is("the last recorded one ended", x.about(8), 6);
        Keeper y = Due.loaded("test a{}test b{}test c{}test d{}test e{}");
        Due.is("a crash ahead of all", y.run(2, 0), 0);
        Due.is("none was recorded", y.about(8), 0);
        Due.is("the last one ended, recorded or not", y.about(13), 3);
        Due.is("five by two workers, up", y.about(14), 3);
        Due.is("one is recorded", y.run(1, 1), 1);
        Due.is("it ended", y.about(8), 1);
        Due.is("the last one would have", y.about(13), 5);
        Due.is("all together", y.about(14), 5);
        Due.is("no more than one a block", y.about(6), 1);
        Due.is("one block", y.about(7), 1);
        Due.is("four are picked", y.about(5), 4);
    }

    private static void wrongInputs() {
        Keeper x = Due.loaded("test a{}");
        int[] none = {-1, 15, 100, Integer.MAX_VALUE, Integer.MIN_VALUE};
        for (int what : none) {
            Due.fails("about(" + what + ")", IllegalArgumentException.class, () -> x.about(what));
        }
        Due.fails("no revision comes first", IllegalStateException.class, () -> new Keeper().about(15));
    }
}
