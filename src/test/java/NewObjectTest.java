/** Promise 1: an empty text; no revision; an empty disk. */
public final class NewObjectTest {
    public static void main(String[] args) {
        Due.is("NONE", SuiteKeeper.NONE, -1);
        Keeper x = new Keeper();
        for (int k = 0; k < 16384; k++) {
            Due.is("disk(" + k + ")", x.disk(k), k == 0 || k == 2 ? 1 : 0);
        }
        Class<IllegalStateException> none = IllegalStateException.class;
        for (int what = -1; what <= 15; what++) {
            int asked = what;
            Due.fails("about", none, () -> x.about(asked));
        }
        Due.fails("code", none, () -> x.code(9, 9, -1));
        Due.fails("mark", none, () -> x.mark(0, 0));
        Due.fails("change", none, () -> x.change(0, -1));
        Due.fails("gone", none, () -> x.gone(0, 0));
        Due.fails("listing", none, () -> x.listing(2, 0, 0));
        Due.fails("why", none, () -> x.why(0));
        Due.fails("whyName", none, () -> x.whyName(0, 0));
        Due.fails("trace", none, () -> x.trace(0));
        Due.fails("step", none, () -> x.step(-1));
        Due.fails("traced", none, () -> x.traced(9));
        Due.fails("value", none, () -> x.value(0));
        Due.fails("local", none, () -> x.local(0));
        Due.fails("global", none, () -> x.global(0));
        Due.fails("cell", none, () -> x.cell(0, 0));
        Due.fails("touches", none, () -> x.touches(7, 0));
        Due.fails("run", none, () -> x.run(0, -1));
        Due.fails("slot", none, () -> x.slot(0, 0));
        Due.fails("verdict", none, () -> x.verdict(0));
        Due.fails("record", none, () -> x.record(0, 9));
        Due.fails("touched", none, () -> x.touched(0, 9, 0));
        Due.is("load of the empty text", x.load(), 0);
        Due.fails("end(1)", IllegalArgumentException.class, () -> x.end(1));
        Due.is("the first sign", x.put('t'), 1);
        Keeper y = new Keeper();
        Due.is("another object's first sign", y.put('t'), 1);
        Due.done("NewObjectTest");
    }
}
