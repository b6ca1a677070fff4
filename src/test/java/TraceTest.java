/** Promise 13: trace. */
public final class TraceTest {
    public static void main(String[] args) {
        Keeper x = Due.loaded("global g:int=4;array b[2];test s{g=5;b[1]=6;}test t{let n=g;}");
        x.trace(0);
        Due.is("not ended", x.traced(0), SuiteKeeper.NONE);
        Due.is("all of it", x.step(100), 6);
        Due.is("g", x.global(0), 5);
        Due.is("b", x.cell(0, 1), 6);
        x.trace(1);
        Due.is("begun anew", x.traced(6), 0);
        Due.is("g as its item says", x.global(0), 4);
        Due.is("b of 0", x.cell(0, 1), 0);
        Due.is("n is 0 until it is set", x.local(0), 0);
        Due.is("one step", x.step(1), 1);
        Class<IndexOutOfBoundsException> none = IndexOutOfBoundsException.class;
        Due.fails("test 2", none, () -> x.trace(2));
        Due.fails("test -1", none, () -> x.trace(-1));
        Due.is("the trace before goes on", x.traced(6), 1);
        Due.is("run", x.run(1, 1000), 2);
        Due.is("a run leaves it as it is", x.traced(6), 1);
        Due.is("a value", x.value(0), 4);
        Due.is("a step behind the run", x.step(9), 2);
        Due.is("n", x.local(0), 4);
        Due.is("runs alone were recorded", x.about(6), 2);
        Due.reload(x, "test s{}");
        Due.fails("gone with another revision", IllegalStateException.class, () -> x.step(1));
        x.trace(0);
        Due.is("another one", x.step(5), 1);
        Due.is("nothing is recorded", x.about(6), 2);
        Due.is("it would still run", x.why(0), 2);
        Due.fails("no revision", IllegalStateException.class, () -> new Keeper().trace(-1));
        Due.done("TraceTest");
    }
}
