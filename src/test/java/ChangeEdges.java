/** Promise 8, change. */
public final class ChangeEdges {
    /** An item of each kind, each with a second one that has other bytes; a name stands at the ^. */
    private static final String[] ITEMS = {"global ^:int=1;", "array ^[1];", "func ^():int{}", "proc ^(){}", "test ^{}"};
    private static final String[] OTHERS = {"global ^:int=2;", "array ^[2];", "func ^():bool{}", "proc ^(){return;}",
        "test ^{check true;}"};
    private static final int[] KINDS = {0, 1, 2, 2, 3};

    public static void main(String[] args) {
        noneAhead();
        eachKind();
        theSameBytes();
        theOneAhead();
        refused();
        Due.done("ChangeEdges");
    }

    /** Promise 8: "NONE if there was none" of a revision ahead. */
    private static void noneAhead() {
        Keeper x = Due.loaded(Texts.fullOfItems());
        int[] counts = {10, 4, 16, 12};
        for (int kind = 0; kind < 4; kind++) {
            Due.is("the first", x.change(kind, 0), SuiteKeeper.NONE);
            Due.is("the last", x.change(kind, counts[kind] - 1), SuiteKeeper.NONE);
        }
        Keeper y = new Keeper();
        Due.is("a fault", Due.load(y, "test"), 4);
        Due.reload(y, "test a{}");
        Due.is("a fault was no revision", y.change(3, 0), SuiteKeeper.NONE);
    }

    /** Promise 8, term 7: "0 as it was .., 1 another one (.. of whatever kind, with other bytes), 2 new". */
    private static void eachKind() {
        for (int was = 0; was < ITEMS.length; was++) {
            for (int is = 0; is < ITEMS.length; is++) {
                Keeper x = Due.loaded(ITEMS[was].replace("^", "same"));
                Due.reload(x, ITEMS[is].replace("^", "same"));
                Due.is(ITEMS[was] + " to " + ITEMS[is], x.change(KINDS[is], 0), was == is ? 0 : 1);
                Due.reload(x, OTHERS[is].replace("^", "same"));
                Due.is(ITEMS[is] + " to " + OTHERS[is], x.change(KINDS[is], 0), 1);
                Due.reload(x, ITEMS[was].replace("^", "same") + OTHERS[is].replace("^", "another"));
                int number = KINDS[was] == KINDS[is] ? 1 : 0;
                Due.is("a new one of " + OTHERS[is], x.change(KINDS[is], number), 2);
            }
        }
    }

    /** Promise 8, term 7: "(there was one of its name with the same bytes)". */
    private static void theSameBytes() {
        Keeper x = Due.loaded("global g:int=5;func f(a:int):int{let b=a;return b+g;}test t{check f(1)==6;}test u{}");
        Due.reload(x, "test v{}test u{ }#\ntest t{check f( 1 )==006;}global z:int=1;"
                + "func f(c:int):int{let d=c;return (d+g);}global g:int=5;");
        Due.is("v is new", x.change(3, 0), 2);
        Due.is("u has another number", x.change(3, 1), 0);
        Due.is("t is written in another way", x.change(3, 2), 0);
        Due.is("z is new", x.change(0, 0), 2);
        Due.is("g has another number", x.change(0, 1), 0);
        Due.is("f's locals have other names", x.change(2, 0), 0);
        // one byte of many, the first ones being the same; and what is longer
        Keeper y = Due.loaded("test t{let x=1+2+3;}test u{let x=true;}");
        Due.reload(y, "test t{let x=1+2+4;}test u{let x=true;x=true;}");
        Due.is("one number", y.change(3, 0), 1);
        Due.is("a statement more", y.change(3, 1), 1);
        // the names that code needs are bytes, too
        Keeper z = Due.loaded("global ga:int=1;global gb:int=1;func f():int{return ga;}test t{check h();}func h():bool{}");
        Due.reload(z, "global ga:int=1;global gb:int=1;func f():int{return gb;}test t{h();}proc h(){}");
        Due.is("another global", z.change(2, 0), 1);
        Due.is("a proc for a func", z.change(3, 0), 1);
    }

    /** Promise 8, term 7: "Against the revision ahead of it", not against one that was ahead of that. */
    private static void theOneAhead() {
        Keeper x = Due.loaded("test a{}test b{}");
        Due.reload(x, "test b{check true;}");
        Due.reload(x, "test a{}test b{}");
        Due.is("a is new again", x.change(3, 0), 2);
        Due.is("b is another one again", x.change(3, 1), 1);
        Due.is("a fault", Due.load(x, "test b{check true;}test"), 23);
        Due.is("is none to be ahead", x.change(3, 1), 1);
        Due.reload(x, "test a{}test b{}");
        Due.is("as it was", x.change(3, 0), 0);
        x.run(1, 100);
        Due.is("a run makes no difference", x.change(3, 1), 0);
    }

    /** Promise 8: "Exceptions as for code()." */
    private static void refused() {
        Class<IndexOutOfBoundsException> none = IndexOutOfBoundsException.class;
        Keeper x = Due.loaded(Texts.fullOfItems());
        int[] counts = {10, 4, 16, 12};
        for (int k = 0; k < 4; k++) {
            int kind = k;
            int[] items = {-1, counts[kind], Integer.MAX_VALUE, Integer.MIN_VALUE};
            for (int item : items) {
                Due.fails("change(" + kind + ", " + item + ")", none, () -> x.change(kind, item));
            }
        }
        int[] kinds = {-1, 4, Integer.MAX_VALUE, Integer.MIN_VALUE};
        for (int kind : kinds) {
            Due.fails("change(" + kind + ", 0)", none, () -> x.change(kind, 0));
        }
        Due.fails("no revision", IllegalStateException.class, () -> new Keeper().change(0, 0));
        Due.fails("no revision comes first", IllegalStateException.class, () -> new Keeper().change(4, -1));
    }
}
