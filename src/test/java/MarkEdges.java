import java.math.BigInteger;

/** Promise 7, mark. */
public final class MarkEdges {
    public static void main(String[] args) {
        fewBytes();
        wraps();
        refused();
        Due.done("MarkEdges");
    }

    /** Promise 7, term 7: "1 at first; for each byte, from the first one on, 31 times itself and the byte". */
    private static void fewBytes() {
        Keeper x = Due.loaded("array a[1];array b[32];global g:int=0;");
        Due.is("1 1", x.mark(1, 0), (31 + 1) * 31 + 1);
        Due.is("1 32", x.mark(1, 1), (31 + 1) * 31 + 32);
        Due.is("six zeros", x.mark(0, 0), 31 * 31 * 31 * 31 * 31 * 31);
    }

    /** Promise 7, term 7: "(an int that wraps)", and bytes are 0 .. 255. */
    private static void wraps() {
        Keeper x = Due.loaded("global a:int=-1;global b:int=-999999;func f():int{return a*" + "1*".repeat(60) + "b;}"
                + "proc p(z:int){}test t{}test u{check f()==1" + "+1".repeat(200) + ";}test v{let x=1;}test w{let x=true;}");
        int[] counts = {2, 0, 2, 4};
        int below = 0;
        int above = 0;
        for (int kind = 0; kind < 4; kind++) {
            for (int item = 0; item < counts[kind]; item++) {
                BigInteger mark = BigInteger.ONE;
                for (String each : Due.bytes(x, kind, item).split(" ")) {
                    mark = mark.multiply(BigInteger.valueOf(31)).add(new BigInteger(each));
                }
                Due.is("mark(" + kind + ", " + item + ")", x.mark(kind, item), mark.intValue());
                Due.is("it has wrapped", mark.bitLength() > 31 || kind == 0, true);
                below += mark.intValue() < 0 ? 1 : 0;
                above += mark.intValue() > 0 ? 1 : 0;
            }
        }
        Due.is("some are below 0, some above", below > 0 && above > 0, true);
    }

    /** Promise 7: "Exceptions as for code()." */
    private static void refused() {
        Class<IndexOutOfBoundsException> none = IndexOutOfBoundsException.class;
        Keeper x = Due.loaded(Texts.fullOfItems());
        int[] counts = {10, 4, 16, 12};
        for (int k = 0; k < 4; k++) {
            int kind = k;
            Due.is("the last one", x.mark(kind, counts[kind] - 1), x.mark(kind, 0));
            int[] items = {-1, counts[kind], Integer.MAX_VALUE, Integer.MIN_VALUE};
            for (int item : items) {
                Due.fails("mark(" + kind + ", " + item + ")", none, () -> x.mark(kind, item));
            }
        }
        int[] kinds = {-1, 4, Integer.MAX_VALUE, Integer.MIN_VALUE};
        for (int kind : kinds) {
            Due.fails("mark(" + kind + ", 0)", none, () -> x.mark(kind, 0));
        }
        Due.fails("no revision", IllegalStateException.class, () -> new Keeper().mark(0, 0));
        Due.fails("no revision comes first", IllegalStateException.class, () -> new Keeper().mark(4, -1));
    }
}
