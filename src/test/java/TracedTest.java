/** Promise 15: traced, and what each verdict leaves. */
public final class TracedTest {
    public static void main(String[] args) {
        ordinary();
        verdicts();
        ofCalls();
        wrongInputs();
        Due.done("TracedTest");
    }

    private static void all(String when, Keeper x, int... want) {
        for (int what = 0; what < 7; what++) {
            Due.is(when + ": traced(" + what + ")", x.traced(what), want[what]);
        }
    }

    private static void ordinary() {
        Keeper x = Due.loaded("proc o(){}func f(a:int):int{o();return a*2;}test t{let n=1+f(3);}");
        x.trace(0);
        all("at first", x, -1, 0, 0, -1, 0, 0, 0);
        x.step(2);
        all("ahead of the call", x, -1, 0, 0, -1, 10, 2, 2);
        x.step(1);
        all("in f", x, -1, 1, 1, 1, 0, 0, 3);
        x.step(1);
        all("in o", x, -1, 2, 2, 0, 0, 0, 4);
        x.step(1);
        all("back in f", x, -1, 2, 1, 1, 2, 0, 5);
        x.step(3);
        all("its value", x, -1, 2, 1, 1, 10, 1, 8);
        x.step(1);
        all("back in t", x, -1, 2, 0, -1, 12, 2, 9);
        x.step(3);
        all("ended", x, 0, 2, 0, -1, 16, 0, 12);
    }

    private static Keeper ended(String text) {
        Keeper x = Due.loaded(text);
        x.trace(0);
        x.step(100000);
        return x;
    }

    private static void verdicts() {
        all("a check", ended("test t{check true;check 1<0;}"), 1, 0, 0, -1, 16, 0, 6);
        all("a check in a proc", ended("test t{p(false);}proc p(b:bool){check b;}"), 1, 1, 1, 0, 4, 0, 4);
        all("/ 0", ended("test t{let a=7+1/0;}"), 2, 0, 0, -1, 16, 1, 4);
        all("% 0", ended("test t{let a=1%0;}"), 2, 0, 0, -1, 11, 0, 3);
        all("no round", ended("test t{while(true){}}"), 3, 3000, 0, -1, 5, 0, 12003);
        all("a cell", ended("array b[2];test t{let a=3+b[2];}"), 5, 0, 0, -1, 12, 1, 3);
        all("a cell to set", ended("array b[2];test t{b[-1]=5;}"), 5, 0, 0, -1, 13, 0, 4);
    }

    private static void ofCalls() {
        // the 21st call has its fuel, but not its place: its parameters stay
        all("too many calls", ended("test t{let a=f(9,8);}func f(a:int,b:int):int{return f(b,a);}"),
                4, 21, 20, 0, 6, 2, 63);
        // a call, 749 rounds of a round and three calls, a round and two calls: the third has no fuel
        Keeper x = ended("test t{p(0);while(true){p(1);q(2);p(3);}}proc p(a:int){}proc q(a:int){}");
        all("no call", x, 3, 3000, 0, -1, 33, 1, 3 + 749 * 13 + 11);
        Due.is("its parameter stays", x.value(0), 3);
        Keeper y = ended("test t{p();p();}proc p(){let i=0;while(i<1499){i=i+1;}}");
        Due.is("just enough", y.traced(0), 0);
        Due.is("all fuel", y.traced(1), 3000);
        Keeper z = ended("test t{p();p();p();}proc p(){let i=0;while(i<1499){i=i+1;}}");
        Due.is("one too many", z.traced(0), 3);
        Due.is("all fuel", z.traced(1), 3000);
        Due.is("the place behind the call", z.traced(4), 6);
        Due.is("no call is open", z.traced(2), 0);
    }

    private static void wrongInputs() {
        Keeper x = Due.loaded("test t{}");
        Due.fails("no trace", IllegalStateException.class, () -> x.traced(7));
        x.trace(0);
        Due.fails("7", IllegalArgumentException.class, () -> x.traced(7));
        Due.fails("-1", IllegalArgumentException.class, () -> x.traced(-1));
        Due.fails("no revision", IllegalStateException.class, () -> new Keeper().traced(0));
    }
}
