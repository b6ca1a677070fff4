/** Promise 23: slot. */
public final class SlotTest {
    private static final String TEXT = "proc p(){}proc q(){p();p();p();p();}"
            + "test a{}test b{q();}test c{p();p();}test d{q();q();}";

    public static void main(String[] args) {
        withoutRecords();
        byEstimates();
        crashed();
        wrongInputs();
        Due.done("SlotTest");
    }

    private static void slot(Keeper x, int i, int... want) {
        for (int what = 0; what < 5; what++) {
            Due.is("slot(" + i + ", " + what + ")", x.slot(i, what), want[what]);
        }
    }

    /** All estimates are 3000, so they go by number; fuels are 0, 5, 2 and 10. */
    private static void withoutRecords() {
        Keeper x = Due.loaded(TEXT);
        Due.is("run", x.run(2, 1000), 4);
        slot(x, 0, 0, 0, 0, 1, 1);
        slot(x, 1, 1, 1, 0, 6, 1);
        slot(x, 2, 2, 0, 1, 4, 1);
        slot(x, 3, 3, 0, 4, 15, 1);
        Keeper y = Due.loaded(TEXT);
        Due.is("run", y.run(64, 1000), 4);
        for (int i = 0; i < 4; i++) {
            Due.is("a worker each", y.slot(i, 1), i);
            Due.is("from 0 on", y.slot(i, 2), 0);
        }
    }

    /** With records that don't hold their fuel is the estimate; e is new and goes first. */
    private static void byEstimates() {
        Keeper x = Due.loaded(TEXT);
        x.run(2, 1000);
        Due.reload(x, TEXT.replace("proc p(){}", "proc p(){return;}").replace("test a{}", "test a{check true;}") + "test e{}test f{}");
        Due.is("six are picked", x.about(5), 6);
        Due.is("run", x.run(2, 1000), 6);
        slot(x, 0, 4, 0, 0, 1, 1);
        slot(x, 1, 5, 1, 0, 1, 1);
        slot(x, 2, 3, 0, 1, 12, 1);
        slot(x, 3, 1, 1, 1, 7, 1);
        slot(x, 4, 2, 1, 7, 10, 1);
        slot(x, 5, 0, 1, 10, 11, 1);
        Due.is("the last one", x.about(13), 12);
        Due.is("22 and 6 more, by two", x.about(14), 12);
        Due.is("nothing is picked", x.run(1, 5), 0);
        Due.fails("no slots", IndexOutOfBoundsException.class, () -> x.slot(0, 0));
    }

    private static void crashed() {
        Keeper x = Due.loaded("test a{}test b{}test c{}");
        Due.is("run", x.run(3, 1), 1);
        slot(x, 0, 0, 0, 0, 1, 1);
        slot(x, 1, 1, 1, 0, 1, 0);
        slot(x, 2, 2, 2, 0, 1, 0);
        Due.is("run", x.run(1, 1000), 2);
        slot(x, 0, 1, 0, 0, 1, 1);
        slot(x, 1, 2, 0, 1, 2, 1);
        Due.fails("no third", IndexOutOfBoundsException.class, () -> x.slot(2, 0));
    }

    private static void wrongInputs() {
        Keeper x = Due.loaded("test a{}");
        Due.fails("no run", IllegalStateException.class, () -> x.slot(-1, 9));
        x.run(1, 1000);
        Due.fails("-1", IndexOutOfBoundsException.class, () -> x.slot(-1, 9));
        Due.fails("1", IndexOutOfBoundsException.class, () -> x.slot(1, 0));
        Due.fails("12", IndexOutOfBoundsException.class, () -> x.slot(12, 0));
        Due.fails("what 5", IllegalArgumentException.class, () -> x.slot(0, 5));
        Due.fails("what -1", IllegalArgumentException.class, () -> x.slot(0, -1));
        Due.is("a fault", Due.load(x, "tset"), 0);
        Due.is("the run stays", x.slot(0, 3), 1);
        Due.reload(x, "test a{}");
        Due.fails("none in this revision", IllegalStateException.class, () -> x.slot(0, 0));
        Due.fails("no revision", IllegalStateException.class, () -> new Keeper().slot(-1, 9));
    }
}
