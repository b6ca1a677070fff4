/** Promise 8: change. */
public final class ChangeTest {
    public static void main(String[] args) {
        Keeper x = Due.loaded("global g:int=1;array b[2];func f():int{return g;}test t{check f()==1;}test u{}");
        Due.is("no revision ahead", x.change(0, 0), SuiteKeeper.NONE);
        Due.is("no revision ahead", x.change(3, 1), SuiteKeeper.NONE);
        // the order in the text doesn't count, nor blanks; g is another one, u a proc now, n is new
        Due.reload(x, "proc u(){}test n{}test t { check f() == 1 ; }func f():int{return g;}array b[2];global g:int=2;");
        Due.is("g has another number", x.change(0, 0), 1);
        Due.is("b is as it was", x.change(1, 0), 0);
        Due.is("u was of another kind", x.change(2, 0), 1);
        Due.is("f is as it was", x.change(2, 1), 0);
        Due.is("n is new", x.change(3, 0), 2);
        Due.is("t is as it was", x.change(3, 1), 0);
        Due.is("a fault leaves all", Due.load(x, "test"), 4);
        Due.is("g still", x.change(0, 0), 1);
        // against the revision ahead alone, not against older ones
        Due.reload(x, "global g:int=1;test u{}");
        Due.is("g again", x.change(0, 0), 1);
        Due.is("u again", x.change(3, 0), 1);
        Due.reload(x, "global g:int=1;array b[2];");
        Due.is("g as it was", x.change(0, 0), 0);
        Due.is("b is new again", x.change(1, 0), 2);
        // code that uses the same names alike, but a func that is a proc now
        Due.reload(x, "test t{let x=1;}");
        Due.reload(x, "test t{let y=1;}");
        Due.is("a local's name makes no byte", x.change(3, 0), 0);
        Class<IndexOutOfBoundsException> none = IndexOutOfBoundsException.class;
        Due.fails("kind 4", none, () -> x.change(4, 0));
        Due.fails("kind -1", none, () -> x.change(-1, 0));
        Due.fails("test 1", none, () -> x.change(3, 1));
        Due.fails("test -1", none, () -> x.change(3, -1));
        Due.fails("no revision", IllegalStateException.class, () -> new Keeper().change(4, 0));
        Due.done("ChangeTest");
    }
}
