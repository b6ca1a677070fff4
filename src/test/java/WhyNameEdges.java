import java.util.NoSuchElementException;

/** Promise 12, whyName. */
public final class WhyNameEdges {
    private static final Class<NoSuchElementException> NO_ITEM = NoSuchElementException.class;
    private static final Class<IndexOutOfBoundsException> NONE_SUCH = IndexOutOfBoundsException.class;

    public static void main(String[] args) {
        ifWhyIsThreeOrMore();
        letters();
        itemsThatAreNotThere();
        refused();
        Due.done("WhyNameEdges");
    }

    private static String name(Keeper x, int test) {
        StringBuilder name = new StringBuilder();
        for (int k = 0; x.whyName(test, k) != SuiteKeeper.NONE; k++) {
            name.append((char) x.whyName(test, k));
        }
        return name.toString();
    }

    /** Promise 12: "the item for which it would run, if why() is 3 or more"; "NoSuchElementException if there is no such item". */
    private static void ifWhyIsThreeOrMore() {
        String text = "global ga:int=1;array ab[1];proc pa(){ab[0]=ga;}test t{pa();}";
        Keeper x = Due.loaded(text);
        Due.fails("why 1", NO_ITEM, () -> x.whyName(0, 0));
        x.run(1, 1000);
        Due.fails("why 0", NO_ITEM, () -> x.whyName(0, 0));
        Due.reload(x, text.replace("test t{", "test t{check true;"));
        Due.is("why", x.why(0), 2);
        Due.fails("why 2", NO_ITEM, () -> x.whyName(0, 0));
        Due.fails("behind the end, too", NO_ITEM, () -> x.whyName(0, 8));
        Due.reload(x, text.replace("int=1", "int=2"));
        Due.is("why 3", name(x, 0), "ga");
        Due.reload(x, text.replace("ab[1]", "ab[2]"));
        Due.is("why 4", name(x, 0), "ab");
        Due.reload(x, text.replace("ga;}", "ga;return;}"));
        Due.is("why 5", name(x, 0), "pa");
        Due.reload(x, text);
        Due.fails("why 0 again", NO_ITEM, () -> x.whyName(0, 0));
    }

    /** Promise 12: "Letter k of the name ..; NONE behind its end." */
    private static void letters() {
        String text = "proc z(){}proc abcdefgh(){}test s{z();}test t{abcdefgh();}";
        Keeper x = Due.loaded(text);
        x.run(1, 1000);
        Due.reload(x, text.replace("(){}", "(){return;}"));
        Due.is("one letter", name(x, 0), "z");
        Due.is("eight letters", name(x, 1), "abcdefgh");
        int[] behind = {8, 9, 64, Integer.MAX_VALUE};
        for (int k : behind) {
            Due.is("behind the end", x.whyName(0, k), SuiteKeeper.NONE);
            Due.is("behind the end", x.whyName(1, k), SuiteKeeper.NONE);
        }
        Due.is("behind one letter", x.whyName(0, 1), SuiteKeeper.NONE);
    }

    /** Promise 12: the name is the record's, also if no item has it any more. */
    private static void itemsThatAreNotThere() {
        Keeper x = Due.loaded("proc p(){let x=old;}global old:int=1;test t{p();}test u{}");
        x.run(1, 1000);
        Due.reload(x, "test u{}proc p(){}test t{p();}");
        Due.is("t", name(x, 1), "old");
        Due.fails("u holds", NO_ITEM, () -> x.whyName(0, 0));
        Due.reload(x, "proc p(){}test t{p();}test old{}");
        Due.is("of another kind", name(x, 0), "old");
        x.run(1, 1000);
        Due.fails("it holds then", NO_ITEM, () -> x.whyName(0, 0));
    }

    /** Promise 12: "IllegalStateException, IndexOutOfBoundsException as for why(), also if k is below 0". */
    private static void refused() {
        Keeper x = Due.loaded("proc p(){}test t{p();}test u{}");
        x.run(1, 1000);
        Due.reload(x, "proc p(){return;}test t{p();}test u{}");
        Due.is("p", x.whyName(0, 0), 'p');
        int[] below = {-1, -8, Integer.MIN_VALUE};
        for (int k : below) {
            Due.fails("letter " + k, NONE_SUCH, () -> x.whyName(0, k));
            Due.fails("letter " + k + ", and no item", NONE_SUCH, () -> x.whyName(1, k));
            Due.fails("test " + k, NONE_SUCH, () -> x.whyName(k, 0));
        }
        Due.fails("test 2", NONE_SUCH, () -> x.whyName(2, 0));
        Due.fails("the greatest", NONE_SUCH, () -> x.whyName(Integer.MAX_VALUE, 0));
        Due.fails("no revision", IllegalStateException.class, () -> new Keeper().whyName(0, 0));
        Due.fails("no revision comes first", IllegalStateException.class, () -> new Keeper().whyName(-1, -1));
    }
}
