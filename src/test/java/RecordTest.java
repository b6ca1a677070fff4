import java.util.NoSuchElementException;

/** Promise 25: record. */
public final class RecordTest {
    public static void main(String[] args) {
        String text = "global g:int=1;func f(a:int):int{check true;check a<2;return a+g;}"
                + "test s{check f(1)==2;check f(2)==3;}test t{check true;check true;check g==0;}test u{}";
        Keeper x = Due.loaded(text);
        Class<NoSuchElementException> none = NoSuchElementException.class;
        Due.fails("no record", none, () -> x.record(0, 0));
        Due.fails("no record comes first", none, () -> x.record(0, 6));
        x.run(1, 1000);
        all(x, 0, 1, 1, 2, 2, 1, 1);
        all(x, 1, 1, 2, 0, 1, 1, 1);
        all(x, 2, 0, -1, 0, 0, 1, 1);
        Due.reload(x, text.replace("int=1", "int=2").replace("test u{", "test v{}test u{while(false){}"));
        all(x, 0, 1, 1, 2, 2, 1, 0);
        all(x, 1, 1, 2, 0, 1, 1, 0);
        Due.fails("v has no record", none, () -> x.record(2, 0));
        all(x, 3, 0, -1, 0, 0, 1, 0);
        x.run(1, 1000);
        all(x, 0, 1, 0, 1, 2, 2, 1);
        all(x, 2, 0, -1, 0, 0, 2, 1);
        thirty();
        Class<IllegalArgumentException> wrong = IllegalArgumentException.class;
        Due.fails("6", wrong, () -> x.record(0, 6));
        Due.fails("-1", wrong, () -> x.record(0, -1));
        Due.fails("test 4", IndexOutOfBoundsException.class, () -> x.record(4, 6));
        Due.fails("test -1", IndexOutOfBoundsException.class, () -> x.record(-1, 0));
        Due.fails("no revision", IllegalStateException.class, () -> new Keeper().record(-1, 6));
        Due.done("RecordTest");
    }

    /** As many items as a text may have, and one test that touches them all. */
    private static void thirty() {
        StringBuilder text = new StringBuilder("test t{let n=0;");
        StringBuilder items = new StringBuilder();
        for (int k = 0; k < 10; k++) {
            char letter = (char) ('a' + k);
            text.append("n=n+g").append(letter).append(';');
            items.append("global g").append(letter).append(":int=").append(k).append(';');
        }
        for (int k = 0; k < 4; k++) {
            char letter = (char) ('a' + k);
            text.append("a").append(letter).append("[0]=n;");
            items.append("array a").append(letter).append("[1];");
        }
        for (int k = 0; k < 16; k++) {
            char letter = (char) ('a' + k);
            text.append("p").append(letter).append("();");
            items.append("proc p").append(letter).append("(){}");
        }
        Keeper x = Due.loaded(text + "check n==45;}" + items);
        Due.is("run", x.run(1, 1000), 1);
        all(x, 0, 0, -1, 16, 30, 1, 1);
        Due.is("the last routine", x.touched(0, 2, 15), true);
        Due.is("the last array", x.touched(0, 1, 3), true);
        Due.is("the last global", x.touched(0, 0, 9), true);
        Due.reload(x, text + "check n==45;}" + items.toString().replace("pp(){}", "pp(){return;}"));
        Due.is("the thirtieth", x.why(0), 32);
        Due.is("its name", x.whyName(0, 1), 'p');
    }

    private static void all(Keeper x, int test, int... want) {
        for (int what = 0; what < 6; what++) {
            Due.is("record(" + test + ", " + what + ")", x.record(test, what), want[what]);
        }
    }
}
