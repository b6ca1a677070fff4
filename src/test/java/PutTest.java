/** Promise 2: put. */
public final class PutTest {
    public static void main(String[] args) {
        ordinary();
        noSigns();
        tooMany();
        Due.done("PutTest");
    }

    private static void ordinary() {
        Keeper x = new Keeper();
        Due.is("put(test)", x.put(0x74736574), 4);
        Due.is("put(  a)", x.put(0x61002000), 6);
        Due.is("put(0)", x.put(0), 6);
        Due.is("put({ })", x.put(0x7d00007b), 8);
        Due.is("load", x.load(), SuiteKeeper.NONE);
        Due.is("the name", x.about(3), 1);
        Due.is("put behind load", x.put(10), 1);
        Due.is("line end and the last sign", x.put(0x7e0a207e), 5);
    }

    private static void noSigns() {
        Keeper x = new Keeper();
        int[] none = {1, 7, 9, 11, 13, 31, 127, 128, 160, 255};
        for (int sign : none) {
            for (int place = 0; place < 4; place++) {
                int signs = (0x61616161 & ~(255 << (8 * place))) | (sign << (8 * place));
                Due.fails("put(" + signs + ")", IllegalArgumentException.class, () -> x.put(signs));
            }
        }
        Due.is("nothing was put", x.put(0), 0);
    }

    private static void tooMany() {
        Keeper x = new Keeper();
        for (int n = 4; n <= 1496; n += 4) {
            Due.is("put", x.put(0x20202020), n);
        }
        Due.is("up to 1499", x.put(0x00202020), 1499);
        Due.fails("1501", UnsupportedOperationException.class, () -> x.put(0x2020));
        Due.fails("no sign, and too many", IllegalArgumentException.class, () -> x.put(0x20202001));
        Due.is("nothing at the end", x.put(0), 1499);
        Due.is("1500", x.put(0x20000000), 1500);
        Due.fails("1501", UnsupportedOperationException.class, () -> x.put(0x20));
        Due.is("nothing when full", x.put(0), 1500);
        Due.is("the place of the end", x.load(), 1500);
        Due.is("empty then", x.put(0), 0);
    }
}
