import java.util.NoSuchElementException;

/** Promise 12: whyName. */
public final class WhyNameTest {
    public static void main(String[] args) {
        String text = "global ab:int=1;func abcdefgh():int{return ab;}test t{check abcdefgh()==1;}test u{}";
        Keeper x = Due.loaded(text);
        Class<NoSuchElementException> none = NoSuchElementException.class;
        Due.fails("no record", none, () -> x.whyName(0, 0));
        x.run(1, 1000);
        Due.fails("it holds", none, () -> x.whyName(0, 0));
        Due.reload(x, text.replace("int=1", "int=2"));
        Due.is("a", x.whyName(0, 0), 'a');
        Due.is("b", x.whyName(0, 1), 'b');
        Due.is("behind the end", x.whyName(0, 2), SuiteKeeper.NONE);
        Due.is("far behind the end", x.whyName(0, Integer.MAX_VALUE), SuiteKeeper.NONE);
        Due.fails("u holds", none, () -> x.whyName(1, 0));
        Due.reload(x, text.replace("abcdefgh", "bcdefgh"));
        Due.fails("its bytes are others", none, () -> x.whyName(0, 0));
        Due.reload(x, text.replace("return ab", "return 1"));
        String name = "abcdefgh";
        for (int k = 0; k < 8; k++) {
            Due.is("letter " + k, x.whyName(0, k), name.charAt(k));
        }
        Due.is("behind eight letters", x.whyName(0, 8), SuiteKeeper.NONE);
        Due.fails("k -1", IndexOutOfBoundsException.class, () -> x.whyName(0, -1));
        Due.fails("k -1 comes ahead", IndexOutOfBoundsException.class, () -> x.whyName(1, -1));
        Due.fails("test 2", IndexOutOfBoundsException.class, () -> x.whyName(2, 0));
        Due.fails("test -1", IndexOutOfBoundsException.class, () -> x.whyName(-1, 0));
        Due.fails("no revision", IllegalStateException.class, () -> new Keeper().whyName(0, -1));
        Due.done("WhyNameTest");
    }
}
