/** Promise 7: mark. */
public final class MarkTest {
    public static void main(String[] args) {
        Keeper x = Due.loaded("array b[4];global g:int=-1;func f():int{return g;}test t{check f()<0;}");
        Due.is("array", x.mark(1, 0), (31 + 1) * 31 + 4);
        int[] bytes = {0, 0, 255, 255, 255, 255};
        int mark = 1;
        for (int each : bytes) {
            mark = 31 * mark + each;
        }
        Due.is("global, with bytes from 0 to 255", x.mark(0, 0), mark);
        for (int kind = 0; kind < 4; kind++) {
            int reckoned = 1;
            for (int k = 0; x.code(kind, 0, k) != SuiteKeeper.NONE; k++) {
                reckoned = 31 * reckoned + x.code(kind, 0, k);
            }
            Due.is("kind " + kind, x.mark(kind, 0), reckoned);
        }
        Class<IndexOutOfBoundsException> none = IndexOutOfBoundsException.class;
        Due.fails("kind 4", none, () -> x.mark(4, 0));
        Due.fails("kind -1", none, () -> x.mark(-1, 0));
        Due.fails("array 1", none, () -> x.mark(1, 1));
        Due.fails("test -1", none, () -> x.mark(3, -1));
        Due.fails("no revision", IllegalStateException.class, () -> new Keeper().mark(4, 0));
        Due.done("MarkTest");
    }
}
