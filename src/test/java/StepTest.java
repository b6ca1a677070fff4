/** Promise 14: step. */
public final class StepTest {
    public static void main(String[] args) {
        Keeper x = Due.loaded("test s{let n=1;n=n+1;}test t{while(true){}}");
        Class<IllegalStateException> noTrace = IllegalStateException.class;
        Class<IllegalArgumentException> wrong = IllegalArgumentException.class;
        Due.fails("no trace", noTrace, () -> x.step(1));
        Due.fails("no trace comes first", noTrace, () -> x.step(-1));
        x.trace(0);
        Due.fails("-1", wrong, () -> x.step(-1));
        Due.fails("100001", wrong, () -> x.step(100001));
        Due.fails("least", wrong, () -> x.step(Integer.MIN_VALUE));
        Due.is("0 steps", x.step(0), 0);
        Due.is("none was done", x.traced(6), 0);
        Due.is("two", x.step(2), 2);
        Due.is("n", x.local(0), 1);
        Due.is("till it ends", x.step(100000), 5);
        Due.is("n", x.local(0), 2);
        Due.is("0 when it has", x.step(100000), 0);
        Due.is("0 when it has", x.step(1), 0);
        x.trace(1);
        // true, unless, round and jump a round; the last round finds no fuel
        Due.is("a long one", x.step(11999), 11999);
        Due.is("not ended", x.traced(0), SuiteKeeper.NONE);
        Due.is("the rest", x.step(100000), 4);
        Due.is("without fuel", x.traced(0), 3);
        Due.fails("-1 behind its end", wrong, () -> x.step(-1));
        Due.fails("no revision", noTrace, () -> new Keeper().step(0));
        Due.done("StepTest");
    }
}
