/** Promise 18: global. */
public final class GlobalTest {
    public static void main(String[] args) {
        Keeper x = Due.loaded("global a:int=-5;test t{a=a+1;b=!b;}global b:bool=true;");
        Class<IndexOutOfBoundsException> none = IndexOutOfBoundsException.class;
        Due.fails("no trace", IllegalStateException.class, () -> x.global(9));
        x.trace(0);
        Due.is("a at first", x.global(0), -5);
        Due.is("b at first", x.global(1), 1);
        Due.fails("2", none, () -> x.global(2));
        Due.fails("-1", none, () -> x.global(-1));
        x.step(4);
        Due.is("a", x.global(0), -4);
        Due.is("b", x.global(1), 1);
        x.step(9);
        Due.is("b", x.global(1), 0);
        x.run(1, 100);
        Due.is("a run leaves it", x.global(0), -4);
        Due.fails("no revision", IllegalStateException.class, () -> new Keeper().global(0));
        Due.done("GlobalTest");
    }
}
