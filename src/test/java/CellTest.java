/** Promise 19: cell. */
public final class CellTest {
    public static void main(String[] args) {
        Keeper x = Due.loaded("array a[1];array b[32];test t{let i=0;while(i<32){b[i]=i+1;i=i+1;}a[0]=b[31]*2;}test u{}");
        Class<IndexOutOfBoundsException> none = IndexOutOfBoundsException.class;
        Due.fails("no trace", IllegalStateException.class, () -> x.cell(9, 9));
        x.trace(0);
        Due.is("0 at first", x.cell(1, 31), 0);
        x.step(100000);
        for (int k = 0; k < 32; k++) {
            Due.is("b[" + k + "]", x.cell(1, k), k + 1);
        }
        Due.is("a[0]", x.cell(0, 0), 64);
        Due.fails("a[1]", none, () -> x.cell(0, 1));
        Due.fails("b[32]", none, () -> x.cell(1, 32));
        Due.fails("b[-1]", none, () -> x.cell(1, -1));
        Due.fails("array 2", none, () -> x.cell(2, 0));
        Due.fails("array -1", none, () -> x.cell(-1, 0));
        x.run(1, 100);
        Due.is("a run leaves it", x.cell(0, 0), 64);
        x.trace(1);
        Due.is("0 again", x.cell(0, 0), 0);
        Due.fails("no revision", IllegalStateException.class, () -> new Keeper().cell(0, 0));
        Due.done("CellTest");
    }
}
