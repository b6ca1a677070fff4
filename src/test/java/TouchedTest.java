import java.util.NoSuchElementException;

/** Promise 26: touched. */
public final class TouchedTest {
    private static final String TEXT = "global g:int=1;global h:int=1;array a[1];array b[1];func f():int{return g;}"
            + "proc p(n:int){check n==1;}proc q(){}test s{p(f());p(a[0]);}test t{h=2;q();check false;}test u{b[1]=0;}";

    public static void main(String[] args) {
        Keeper x = Due.loaded(TEXT);
        Class<NoSuchElementException> none = NoSuchElementException.class;
        Due.fails("no record", none, () -> x.touched(0, 0, 0));
        Due.fails("no record comes first", none, () -> x.touched(0, 9, 9));
        x.run(1, 1000);
        all(x, 0, "g a fp !p");
        all(x, 1, " q !");
        all(x, 2, " b");
        wrongInputs(x);
        otherRevisions(x);
        Due.done("TouchedTest");
    }

    /** Names of what was touched; behind ! where the check stood, nothing for the test itself. */
    private static void all(Keeper x, int test, String touched) {
        int check = touched.indexOf('!');
        String items = check < 0 ? touched : touched.substring(0, check);
        String names = "gh ab fpq";
        int kind = 0;
        int number = 0;
        for (int k = 0; k < names.length(); k++) {
            char name = names.charAt(k);
            if (name == ' ') {
                kind++;
                number = 0;
            } else {
                Due.is(test + " touched " + name, x.touched(test, kind, number), items.indexOf(name) >= 0);
                if (kind == 2) {
                    boolean stood = check >= 0 && touched.substring(check).indexOf(name) >= 0;
                    Due.is(test + "'s check stood in " + name, x.touched(test, 3, number), stood);
                }
                number++;
            }
        }
        Due.is(test + "'s own check", x.touched(test, 3, SuiteKeeper.NONE), touched.endsWith("!"));
    }

    private static void wrongInputs(Keeper x) {
        Class<IllegalArgumentException> wrong = IllegalArgumentException.class;
        Due.fails("kind 4", wrong, () -> x.touched(0, 4, 0));
        Due.fails("kind -1", wrong, () -> x.touched(0, -1, 0));
        Due.fails("global 2", wrong, () -> x.touched(0, 0, 2));
        Due.fails("global NONE", wrong, () -> x.touched(0, 0, -1));
        Due.fails("array 2", wrong, () -> x.touched(0, 1, 2));
        Due.fails("routine 3", wrong, () -> x.touched(0, 2, 3));
        Due.fails("check in routine 3", wrong, () -> x.touched(0, 3, 3));
        Due.fails("check in routine -2", wrong, () -> x.touched(0, 3, -2));
        Due.fails("without a check, too", wrong, () -> x.touched(2, 3, 3));
        Due.fails("test 3", IndexOutOfBoundsException.class, () -> x.touched(3, 9, 0));
        Due.fails("test -1", IndexOutOfBoundsException.class, () -> x.touched(-1, 0, 0));
        Due.fails("no revision", IllegalStateException.class, () -> new Keeper().touched(-1, 9, 0));
    }

    private static void otherRevisions(Keeper x) {
        // numbers are those of the revision, names and kinds those of the record; f is a proc now
        Due.reload(x, "proc f(){}proc q(){}proc p(n:int){}global h:int=1;global g:int=5;array z[1];test s{}");
        Due.is("f is of one kind", x.touched(0, 2, 0), true);
        Due.is("q", x.touched(0, 2, 1), false);
        Due.is("p", x.touched(0, 2, 2), true);
        Due.is("h", x.touched(0, 0, 0), false);
        Due.is("g", x.touched(0, 0, 1), true);
        Due.is("z is new", x.touched(0, 1, 0), false);
        Due.is("the check stood in p", x.touched(0, 3, 2), true);
        Due.is("not in f", x.touched(0, 3, 0), false);
        Due.is("not in the test", x.touched(0, 3, -1), false);
        // of another kind now: a was an array, g a global, p a proc
        Due.reload(x, "global a:int=1;array g[1];array p[1];func h():int{}test s{}");
        Due.is("a was an array", x.touched(0, 0, 0), false);
        Due.is("g was a global", x.touched(0, 1, 0), false);
        Due.is("p was a proc", x.touched(0, 1, 1), false);
        Due.is("h", x.touched(0, 2, 0), false);
    }
}
