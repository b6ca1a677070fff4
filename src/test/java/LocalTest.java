/** Promise 17: local. */
public final class LocalTest {
    public static void main(String[] args) {
        Keeper x = Due.loaded("func f(a:int,b:bool):int{let c=a;a=9;return f(c,!b);}test t{let n=5;let m=f(n,true);}test u{}");
        Class<IndexOutOfBoundsException> none = IndexOutOfBoundsException.class;
        Due.fails("no trace", IllegalStateException.class, () -> x.local(-1));
        x.trace(0);
        Due.is("n is 0", x.local(0), 0);
        Due.is("m is 0", x.local(1), 0);
        Due.fails("2", none, () -> x.local(2));
        Due.fails("-1", none, () -> x.local(-1));
        x.step(2);
        Due.is("n", x.local(0), 5);
        x.step(3);
        Due.is("a", x.local(0), 5);
        Due.is("a bool is 1", x.local(1), 1);
        Due.is("c is 0 until it is set", x.local(2), 0);
        Due.fails("3", none, () -> x.local(3));
        x.step(4);
        Due.is("a is set", x.local(0), 9);
        Due.is("c", x.local(2), 5);
        x.step(4);
        Due.is("a of the call", x.local(0), 5);
        Due.is("b of the call", x.local(1), 0);
        Due.is("c of the call", x.local(2), 0);
        x.trace(1);
        Due.fails("none at all", none, () -> x.local(0));
        Due.fails("no revision", IllegalStateException.class, () -> new Keeper().local(0));
        back();
        Due.done("LocalTest");
    }

    /** A second call has its own locals at 0, and the caller's are as they were. */
    private static void back() {
        Keeper x = Due.loaded("proc p(a:int){if(a==0){}let c=7;}test t{let n=3;p(1);p(0);}");
        x.trace(0);
        x.step(4);
        Due.is("in p", x.traced(3), 0);
        x.step(8);
        Due.is("back", x.traced(3), SuiteKeeper.NONE);
        Due.is("n", x.local(0), 3);
        x.step(2);
        Due.is("in p", x.traced(3), 0);
        Due.is("a", x.local(0), 0);
        Due.is("c", x.local(1), 0);
        // what lay where the parameters are now doesn't count
        Keeper y = Due.loaded("proc p(a:int){if(a==1){let c=7;let d=8;}check c+d==0;}test t{let n=9+9*(9+9);p(0);p(1);p(0);}");
        y.trace(0);
        y.step(100000);
        Due.is("c and d are 0, then they aren't", y.traced(0), 1);
        Due.is("in the second call", y.traced(1), 2);
        Keeper z = Due.loaded("proc p(){let c=7;}proc q(){if(false){let c=1;}check c==0;}test t{if(false){let n=1;}check n==0;p();q();n=5;}");
        for (int n = 0; n < 2; n++) {
            z.trace(0);
            z.step(100000);
            Due.is("c of q is 0, and n again", z.traced(0), 0);
            Due.is("n", z.local(0), 5);
        }
    }
}
