/** Promise 20: touches. */
public final class TouchesTest {
    public static void main(String[] args) {
        ordinary();
        tried();
        lastCalls();
        wrongInputs();
        Due.done("TouchesTest");
    }

    private static void ordinary() {
        Keeper x = Due.loaded("global a:int=1;global b:int=2;array c[2];array d[2];array e[2];"
                + "proc p(){}func f():int{return a;}proc q(){}test t{b=f();c[0]=1;d[1]=c[1];if(false){q();e[0]=1;}}");
        x.trace(0);
        Due.is("nothing at first", x.touches(2, 1), false);
        x.step(1);
        Due.is("f when it is called", x.touches(2, 1), true);
        Due.is("a not yet", x.touches(0, 0), false);
        x.step(1);
        Due.is("a when it is read", x.touches(0, 0), true);
        x.step(100);
        Due.is("b is set alone", x.touches(0, 1), false);
        Due.is("c", x.touches(1, 0), true);
        Due.is("d is set", x.touches(1, 1), true);
        Due.is("e isn't come to", x.touches(1, 2), false);
        Due.is("p isn't called", x.touches(2, 0), false);
        Due.is("q isn't come to", x.touches(2, 2), false);
        x.run(1, 100);
        Due.is("a run leaves it", x.touches(0, 0), true);
        x.trace(0);
        Due.is("nothing at first", x.touches(0, 0), false);
    }

    private static void tried() {
        Keeper x = Due.loaded("array c[2];array d[2];test t{let n=c[2];}test u{d[-1]=0;}");
        x.trace(0);
        x.step(100);
        Due.is("tried to read", x.touches(1, 0), true);
        x.trace(1);
        x.step(100);
        Due.is("tried to set", x.touches(1, 1), true);
        Due.is("of another trace", x.touches(1, 0), false);
    }

    private static void lastCalls() {
        // f has called itself with 0 to 19, so the 21st call is that of h
        Keeper x = Due.loaded("func f(n:int):int{if(n==19){return h();}return f(n+1);}func h():int{return 0;}test t{let a=f(0);}");
        x.trace(0);
        x.step(100000);
        Due.is("too many calls", x.traced(0), 4);
        Due.is("h is touched", x.touches(2, 1), true);
        Keeper y = Due.loaded("test t{let i=0;while(i<3000){i=i+1;}p();}proc p(){}");
        y.trace(0);
        y.step(100000);
        Due.is("no fuel", y.traced(0), 3);
        Due.is("p isn't called", y.touches(2, 0), false);
    }

    private static void wrongInputs() {
        Keeper x = Due.loaded("global a:int=1;test t{}");
        Due.fails("no trace", IllegalStateException.class, () -> x.touches(3, 0));
        x.trace(0);
        Class<IndexOutOfBoundsException> none = IndexOutOfBoundsException.class;
        Due.fails("kind 3", none, () -> x.touches(3, 0));
        Due.fails("kind -1", none, () -> x.touches(-1, 0));
        Due.fails("global 1", none, () -> x.touches(0, 1));
        Due.fails("global -1", none, () -> x.touches(0, -1));
        Due.fails("array 0", none, () -> x.touches(1, 0));
        Due.fails("routine 0", none, () -> x.touches(2, 0));
        Due.fails("routine 32", none, () -> x.touches(2, 32));
        Due.fails("no revision", IllegalStateException.class, () -> new Keeper().touches(0, 0));
    }
}
