/** Promise 9: gone. */
public final class GoneTest {
    public static void main(String[] args) {
        Keeper x = Due.loaded("test tb{}proc pa(){}global gb:int=1;test ta{}array ab[1];func fa():int{}"
                + "global ga:bool=true;array abcdefgh[2];");
        Class<IndexOutOfBoundsException> none = IndexOutOfBoundsException.class;
        Due.is("none is gone", x.about(12), 0);
        Due.fails("none is gone", none, () -> x.gone(0, 0));
        // pa is there, if as a test
        Due.reload(x, "test pa{}test n{}");
        Due.is("seven", x.about(12), 7);
        String[] names = {"gb", "ga", "ab", "abcdefgh", "fa", "tb", "ta"};
        for (int i = 0; i < names.length; i++) {
            for (int k = 0; k < names[i].length(); k++) {
                Due.is("gone(" + i + ", " + k + ")", x.gone(i, k), names[i].charAt(k));
            }
            Due.is("behind the end", x.gone(i, names[i].length()), SuiteKeeper.NONE);
            Due.is("far behind the end", x.gone(i, Integer.MAX_VALUE), SuiteKeeper.NONE);
        }
        Due.fails("i -1", none, () -> x.gone(-1, 0));
        Due.fails("i 7", none, () -> x.gone(7, 0));
        Due.fails("k -1", none, () -> x.gone(0, -1));
        Due.fails("no revision", IllegalStateException.class, () -> new Keeper().gone(-1, 0));
        Due.reload(x, "test pa{}test n{}");
        Due.is("none against the revision ahead", x.about(12), 0);
        Due.fails("none is gone", none, () -> x.gone(0, 0));
        Due.done("GoneTest");
    }
}
