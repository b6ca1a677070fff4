import java.util.NoSuchElementException;

/** Promise 25: record. */
public final class RecordTest {
    public static void main(String[] args) {
        String text = "global g:int=1;func f(a:int):int{check true;check a<2;return a+g;}"
                + "test s{check f(1)==2;check f(2)==3;}test t{check true;check true;check g==0;}test u{}";
        SuiteKeeper x = Due.loaded(text);
        Class<NoSuchElementException> none = NoSuchElementException.class;
        Due.fails("no record", none, () -> x.record(0, 0));
        Due.fails("no record comes first", none, () -> x.record(0, 6));
        x.run(1, 1000);
        all(x, 0, 1, 1, 2, 2, 1, 1);
        all(x, 1, 1, 2, 0, 1, 1, 1);
        all(x, 2, 0, -1, 0, 0, 1, 1);
        Due.reload(x, text.replace("int=1", "int=2").replace("test u{", "test v{}test u{while(false){}"));
        all(x, 0, 1, 1, 2, 2, 1, 0);
        all(x, 1, 1, 2, 0, 1, 1, 0);
        Due.fails("v has no record", none, () -> x.record(2, 0));
        all(x, 3, 0, -1, 0, 0, 1, 0);
        x.run(1, 1000);
        all(x, 0, 1, 0, 1, 2, 2, 1);
        all(x, 2, 0, -1, 0, 0, 2, 1);
        Class<IllegalArgumentException> wrong = IllegalArgumentException.class;
        Due.fails("6", wrong, () -> x.record(0, 6));
        Due.fails("-1", wrong, () -> x.record(0, -1));
        Due.fails("test 4", IndexOutOfBoundsException.class, () -> x.record(4, 6));
        Due.fails("test -1", IndexOutOfBoundsException.class, () -> x.record(-1, 0));
        Due.fails("no revision", IllegalStateException.class, () -> new SuiteKeeper().record(-1, 6));
        Due.done("RecordTest");
    }

    private static void all(SuiteKeeper x, int test, int... want) {
        for (int what = 0; what < 6; what++) {
            Due.is("record(" + test + ", " + what + ")", x.record(test, what), want[what]);
        }
    }
}
