import java.util.NoSuchElementException;

/** Promises 25 and 26, record and touched. */
public final class RecordEdges {
    private static final Class<NoSuchElementException> NO_RECORD = NoSuchElementException.class;
    private static final Class<IndexOutOfBoundsException> NO_TEST = IndexOutOfBoundsException.class;
    private static final Class<IllegalArgumentException> WRONG = IllegalArgumentException.class;

    public static void main(String[] args) {
        eachVerdict();
        checks();
        holdsOrNot();
        howMany();
        noRecord();
        byNameAndKind();
        funcsAndProcs();
        whereTheCheckStood();
        refusedRecord();
        refusedTouched();
        Due.done("RecordEdges");
    }

    private static Keeper run(String text) {
        Keeper x = Due.loaded(text);
        x.run(1, 1000);
        return x;
    }

    private static void record(String when, Keeper x, int test, int... want) {
        for (int what = 0; what < 6; what++) {
            Due.is(when + ": record(" + test + ", " + what + ")", x.record(test, what), want[what]);
        }
    }

    /** Promise 25: "0 its verdict, 1 the check's number (NONE), 2 the fuel, 3 how many items it touched, 4 .., 5 whether it holds". */
    private static void eachVerdict() {
        Keeper x = run("global g:int=1;array b[1];proc p(){p();}test s{}test t{check g==2;}test u{let x=1/0;}"
                + "test v{while(true){}}test w{p();}test y{b[1]=g;}");
        record("its end", x, 0, 0, -1, 0, 0, 1, 1);
        record("a check", x, 1, 1, 0, 0, 1, 1, 1);
        record("/", x, 2, 2, -1, 0, 0, 1, 1);
        record("no fuel", x, 3, 3, -1, 3000, 0, 1, 1);
        record("calls", x, 4, 4, -1, 21, 1, 1, 1);
        record("a cell", x, 5, 5, -1, 0, 2, 1, 1);
    }

    /** Promise 25: "1 the check's number (NONE)": from 0 on, of the item in which it stood. */
    private static void checks() {
        for (int number = 0; number < 4; number++) {
            String before = "check true;".repeat(number);
            record("the test's", run("test t{" + before + "check false;}"), 0, 1, number, 0, 0, 1, 1);
            record("a proc's", run("test t{check true;p();}proc p(){" + before + "check false;}"), 0, 1, number, 1, 1, 1, 1);
            record("none", run("test t{" + before + "}"), 0, 0, -1, 0, 0, 1, 1);
        }
        record("in a loop", run("test t{let i=5;while(true){check true;check 0<i;i=i-1;}}"), 0, 1, 1, 6, 0, 1, 1);
    }

    /** Promise 25: "Of a test's record, whether it holds or not"; "4 its revision's number, 5 whether it holds (1 or 0)". */
    private static void holdsOrNot() {
        String text = "global g:int=1;test t{check g==2;}";
        Keeper x = run(text);
        record("it holds", x, 0, 1, 0, 0, 1, 1, 1);
        Due.reload(x, text.replace("int=1", "int=2"));
        record("what it touched doesn't", x, 0, 1, 0, 0, 1, 1, 0);
        Due.reload(x, "test t{}");
        record("its bytes don't", x, 0, 1, 0, 0, 1, 1, 0);
        Due.reload(x, text);
        record("it holds again", x, 0, 1, 0, 0, 1, 1, 1);
        Due.reload(x, text.replace("int=1", "int=2"));
        x.run(1, 0);
        record("a crash leaves it", x, 0, 1, 0, 0, 1, 1, 0);
        x.run(1, 1000);
        record("another one", x, 0, 0, -1, 0, 1, 5, 1);
        Due.reload(x, text);
        record("the one before is gone", x, 0, 0, -1, 0, 1, 5, 0);
    }

    /** Promise 25: "3 how many items it touched", from none to all. */
    private static void howMany() {
        String items = Texts.times("global gN:int=1;", 10) + Texts.times("array aN[1];", 4) + Texts.times("proc pN(){}", 16);
        String[] statements = {"", "ga=1;", "let x=ga;", "let x=ga+ga;", "pa();", "pa();pa();", "aa[0]=1;", "aa[0]=aa[0];"};
        int[] due = {0, 0, 1, 1, 1, 1, 1, 1};
        for (int k = 0; k < due.length; k++) {
            Due.is(statements[k], run(items + "test t{" + statements[k] + "}").record(0, 3), due[k]);
        }
        String all = "let x=0" + Texts.times("+gN", 10) + Texts.times("+aN[0]", 4) + ";" + Texts.times("pN();", 16);
        Keeper x = run(items + "test t{" + all + "}");
        record("all", x, 0, 0, -1, 16, 30, 1, 1);
        int[] counts = {10, 4, 16};
        for (int kind = 0; kind < 3; kind++) {
            for (int k = 0; k < counts[kind]; k++) {
                Due.is("touched(0, " + kind + ", " + k + ")", x.touched(0, kind, k), true);
            }
        }
    }

    /** Promise 25: "NoSuchElementException if it has no record". */
    private static void noRecord() {
        Keeper x = Due.loaded("test s{}test t{}");
        Due.fails("no run", NO_RECORD, () -> x.record(0, 0));
        Due.fails("no run", NO_RECORD, () -> x.touched(0, 3, -1));
        x.run(1, 1);
        Due.is("s has one", x.record(0, 0), 0);
        Due.fails("t has none by a crash", NO_RECORD, () -> x.record(1, 0));
        Due.reload(x, "test st{}test s{}");
        Due.fails("another name", NO_RECORD, () -> x.record(0, 0));
        Due.is("s has another number", x.record(1, 0), 0);
        x.trace(0);
        x.step(9);
        Due.fails("a trace leaves none", NO_RECORD, () -> x.record(0, 0));
    }

    /** Promise 26: "touched global (kind 0), array (1) or routine (2) k of the revision, by its name and kind". */
    private static void byNameAndKind() {
        Keeper x = run("global ga:int=1;global gb:int=1;array aa[1];array ab[1];proc pa(){}proc pb(){}test t{pb();ab[0]=gb;}test u{}");
        String[] due = {"ny", "ny", "ny"};
        for (int kind = 0; kind < 3; kind++) {
            for (int k = 0; k < 2; k++) {
                Due.is("touched(0, " + kind + ", " + k + ")", x.touched(0, kind, k), due[kind].charAt(k) == 'y');
                Due.is("touched(1, " + kind + ", " + k + ")", x.touched(1, kind, k), false);
            }
        }
        // other numbers, other bytes, a new one ahead
        Due.reload(x, "global gc:bool=true;global gb:int=7;global ga:int=1;array ab[9];array aa[1];proc pb(){return;}proc pa(){}test t{}");
        Due.is("gc", x.touched(0, 0, 0), false);
        Due.is("gb", x.touched(0, 0, 1), true);
        Due.is("ga", x.touched(0, 0, 2), false);
        Due.is("ab", x.touched(0, 1, 0), true);
        Due.is("aa", x.touched(0, 1, 1), false);
        Due.is("pb", x.touched(0, 2, 0), true);
        Due.is("pa", x.touched(0, 2, 1), false);
        // the same names, but of other kinds
        Due.reload(x, "global ab:int=1;global pb:int=1;array gb[1];array pa[1];proc ga(){}test t{}");
        int[] counts = {2, 2, 1};
        for (int kind = 0; kind < 3; kind++) {
            for (int k = 0; k < counts[kind]; k++) {
                Due.is("of another kind", x.touched(0, kind, k), false);
            }
        }
    }

    /** Promise 26: "(a func that is a proc now is of one kind)". */
    private static void funcsAndProcs() {
        Keeper x = run("func f():int{check true;}proc p(){check false;}test t{let x=f();p();}");
        Due.reload(x, "proc f(){}func p():int{}test t{}");
        Due.is("f", x.touched(0, 2, 0), true);
        Due.is("p", x.touched(0, 2, 1), true);
        Due.is("the check stood in p", x.touched(0, 3, 1), true);
        Due.is("not in f", x.touched(0, 3, 0), false);
        // a test is no routine, a routine no test
        Due.reload(x, "test f{}test p{}proc q(){}test t{}");
        Due.is("q", x.touched(2, 2, 0), false);
        Due.is("no check in q", x.touched(2, 3, 0), false);
    }

    /** Promise 26: "or its check stood in routine k (3), in the test itself (3, k NONE); false without a check". */
    private static void whereTheCheckStood() {
        Keeper x = run("proc p(){check false;}proc q(){check true;p();}proc r(){check true;}test s{q();}"
                + "test t{r();check true;check false;}test u{r();let x=1/0;}test v{r();}");
        String[] due = {"nynn", "ynnn", "nnnn", "nnnn"};
        for (int test = 0; test < 4; test++) {
            for (int k = -1; k < 3; k++) {
                Due.is("touched(" + test + ", 3, " + k + ")", x.touched(test, 3, k), due[test].charAt(k + 1) == 'y');
            }
        }
        // by its name: p has another number and other bytes now
        Due.reload(x, "proc n(){}proc q(){}proc p(){}test t{}test s{}");
        Due.is("s in p", x.touched(1, 3, 2), true);
        Due.is("s in q", x.touched(1, 3, 1), false);
        Due.is("s in itself", x.touched(1, 3, -1), false);
        Due.is("t in itself", x.touched(0, 3, -1), true);
        Due.is("t in n", x.touched(0, 3, 0), false);
        // a routine that is called as the test was: its check stood in that test
        Due.reload(x, "proc u(){}test t{}");
        Due.is("not in u", x.touched(0, 3, 0), false);
        Keeper y = run("test s{check false;}");
        Due.reload(y, "test n{}proc s(){}test t{}");
        Due.fails("n has no record", NO_RECORD, () -> y.touched(0, 3, 0));
    }

    /** Promise 25: "IllegalStateException ..; IndexOutOfBoundsException ..; NoSuchElementException ..; IllegalArgumentException for another what". */
    private static void refusedRecord() {
        Keeper x = Due.loaded(Texts.times("test tN{}", 12));
        int[] tests = {-1, 12, Integer.MAX_VALUE, Integer.MIN_VALUE};
        int[] whats = {-1, 6, 7, Integer.MAX_VALUE, Integer.MIN_VALUE};
        for (int what : whats) {
            Due.fails("no record comes first", NO_RECORD, () -> x.record(11, what));
            Due.fails("no revision comes first", IllegalStateException.class, () -> new Keeper().record(-1, what));
        }
        x.run(1, 1000);
        for (int test : tests) {
            Due.fails("record(" + test + ", 0)", NO_TEST, () -> x.record(test, 0));
            Due.fails("no test comes first", NO_TEST, () -> x.record(test, 6));
        }
        for (int what : whats) {
            Due.fails("record(11, " + what + ")", WRONG, () -> x.record(11, what));
        }
        Due.is("the last one", x.record(11, 5), 1);
    }

    /** Promise 26: "Exceptions as for record(); IllegalArgumentException if there is no such kind or item." */
    private static void refusedTouched() {
        Keeper x = Due.loaded(Texts.fullOfItems());
        Due.fails("no record comes first", NO_RECORD, () -> x.touched(11, 9, 9));
        Due.fails("no revision comes first", IllegalStateException.class, () -> new Keeper().touched(-1, 9, 9));
        x.run(64, 1000);
        int[] tests = {-1, 12, Integer.MAX_VALUE, Integer.MIN_VALUE};
        for (int test : tests) {
            Due.fails("touched(" + test + ", 0, 0)", NO_TEST, () -> x.touched(test, 0, 0));
            Due.fails("no test comes first", NO_TEST, () -> x.touched(test, 9, 9));
        }
        int[] kinds = {-1, 4, 5, Integer.MAX_VALUE, Integer.MIN_VALUE};
        for (int kind : kinds) {
            Due.fails("touched(0, " + kind + ", 0)", WRONG, () -> x.touched(0, kind, 0));
            Due.fails("touched(0, " + kind + ", -1)", WRONG, () -> x.touched(0, kind, -1));
        }
        int[] counts = {10, 4, 16, 16};
        for (int k = 0; k < 4; k++) {
            int kind = k;
            Due.is("the last of kind " + kind, x.touched(11, kind, counts[kind] - 1), false);
            int[] items = {counts[kind], counts[kind] + 1, -2, Integer.MAX_VALUE, Integer.MIN_VALUE};
            for (int item : items) {
                Due.fails("touched(11, " + kind + ", " + item + ")", WRONG, () -> x.touched(11, kind, item));
            }
            if (kind < 3) {
                Due.fails("touched(11, " + kind + ", -1)", WRONG, () -> x.touched(11, kind, -1));
            }
        }
        Due.is("the test itself", x.touched(11, 3, SuiteKeeper.NONE), false);
        Keeper y = Due.loaded("test t{check false;}");
        y.run(1, 1000);
        Due.is("no routines, but the test itself", y.touched(0, 3, SuiteKeeper.NONE), true);
        for (int k = 0; k < 4; k++) {
            int kind = k;
            Due.fails("none of kind " + kind, WRONG, () -> y.touched(0, kind, 0));
        }
    }
}
