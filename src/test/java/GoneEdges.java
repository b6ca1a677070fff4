/** Promise 9, gone. */
public final class GoneEdges {
    private static final Class<IndexOutOfBoundsException> NONE_SUCH = IndexOutOfBoundsException.class;

    public static void main(String[] args) {
        noneGone();
        allGone();
        someGone();
        letters();
        refused();
        Due.done("GoneEdges");
    }

    private static String name(Keeper x, int i) {
        StringBuilder name = new StringBuilder();
        for (int k = 0; x.gone(i, k) != SuiteKeeper.NONE; k++) {
            name.append((char) x.gone(i, k));
        }
        return name.toString();
    }

    /** Promise 9: "IndexOutOfBoundsException if there is none such": no revision ahead, or nothing gone. */
    private static void noneGone() {
        Keeper x = Due.loaded("test a{}");
        Due.fails("no revision ahead", NONE_SUCH, () -> x.gone(0, 0));
        Due.reload(x, "test a{check true;}");
        Due.fails("another one isn't gone", NONE_SUCH, () -> x.gone(0, 0));
        Due.reload(x, "global a:int=1;");
        Due.fails("nor one of another kind", NONE_SUCH, () -> x.gone(0, 0));
        Due.is("none", x.about(12), 0);
    }

    /** Promise 9, term 7: "globals, arrays, routines, tests, each kind by its numbers there". */
    private static void allGone() {
        String items = Texts.times("test tN{}", 12) + Texts.times("proc pN(){}", 8) + Texts.times("array aN[1];", 4)
                + Texts.times("func fN():int{}", 8) + Texts.times("global gN:int=1;", 10);
        Keeper x = Due.loaded(items);
        Due.reload(x, "test z{}");
        Due.is("all", x.about(12), 42);
        String due = Texts.times("gN ", 10) + Texts.times("aN ", 4) + Texts.times("pN ", 8) + Texts.times("fN ", 8)
                + Texts.times("tN ", 12);
        String[] names = due.trim().split(" ");
        for (int i = 0; i < 42; i++) {
            Due.is("gone " + i, name(x, i), names[i]);
        }
        Due.fails("43", NONE_SUCH, () -> x.gone(42, 0));
        Due.reload(x, "test z{}");
        Due.fails("of the revision ahead alone", NONE_SUCH, () -> x.gone(0, 0));
    }

    /** Promise 9, term 7: "the items of that revision whose names this one hasn't". */
    private static void someGone() {
        Keeper x = Due.loaded("test a{}global b:int=1;proc c(){}array d[1];test e{}global f:int=1;");
        Due.reload(x, "proc a(){}test f{}array n[1];");
        Due.is("how many", x.about(12), 4);
        String[] names = {"b", "d", "c", "e"};
        for (int i = 0; i < names.length; i++) {
            Due.is("gone " + i, name(x, i), names[i]);
        }
        Due.fails("4", NONE_SUCH, () -> x.gone(4, 0));
        Due.is("a misfit", Due.load(x, "test a{z();}"), 5007);
        Due.is("is no revision", name(x, 0), "b");
        // a local of its name is no item
        Due.reload(x, "test t{let a=1;let n=2;}");
        Due.is("how many", x.about(12), 3);
        Due.is("n", name(x, 0), "n");
        Due.is("a", name(x, 1), "a");
        Due.is("f", name(x, 2), "f");
    }

    /** Promise 9: "Letter k of the name ..; NONE behind its end." */
    private static void letters() {
        Keeper x = Due.loaded("test abcdefgh{}test z{}test yx{}");
        Due.reload(x, "test n{}");
        for (int k = 0; k < 8; k++) {
            Due.is("letter " + k, x.gone(0, k), 'a' + k);
        }
        int[] behind = {8, 9, 64, 1000, Integer.MAX_VALUE};
        for (int k : behind) {
            for (int i = 0; i < 3; i++) {
                Due.is("behind the end", x.gone(i, k), SuiteKeeper.NONE);
            }
        }
        Due.is("one letter", x.gone(1, 0), 'z');
        Due.is("behind it", x.gone(1, 1), SuiteKeeper.NONE);
        Due.is("two letters", x.gone(2, 1), 'x');
        Due.is("behind them", x.gone(2, 2), SuiteKeeper.NONE);
    }

    /** Promise 9: "IllegalStateException if there is no revision; IndexOutOfBoundsException if .. k is below 0". */
    private static void refused() {
        Keeper x = Due.loaded("test a{}");
        Due.reload(x, "test n{}");
        int[] below = {-1, -8, -64, Integer.MIN_VALUE};
        for (int k : below) {
            Due.fails("gone(0, " + k + ")", NONE_SUCH, () -> x.gone(0, k));
            Due.fails("gone(" + k + ", 0)", NONE_SUCH, () -> x.gone(k, 0));
        }
        Due.fails("1", NONE_SUCH, () -> x.gone(1, 0));
        Due.fails("the greatest", NONE_SUCH, () -> x.gone(Integer.MAX_VALUE, 0));
        Due.fails("no revision", IllegalStateException.class, () -> new Keeper().gone(0, 0));
        Due.fails("no revision comes first", IllegalStateException.class, () -> new Keeper().gone(-1, -1));
    }
}
