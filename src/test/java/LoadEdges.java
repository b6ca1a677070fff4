import java.util.function.Consumer;

/** Promise 4, load: what it leaves of the text and of all else. */
public final class LoadEdges {
    private static final String FIRST = "global g:int=1;array b[2];func f(n:int):int{check n<2;return n+g;}"
            + "proc p(){b[1]=f(1);}test s{p();}test t{check f(2)==3;}test u{}";

    public static void main(String[] args) {
        emptyThen();
        allElseStays();
        itIsTheRevision();
        Due.done("LoadEdges");
    }

    /** Promise 4: "Loads the text, which is empty then in any case". */
    private static void emptyThen() {
        String[] texts = {"", " ", "test a{}", "test", "test a{}$", "test a{check 1;}", "test a{x();}"};
        for (String text : texts) {
            Keeper x = new Keeper();
            Due.load(x, text);
            Due.is("behind " + text, x.put(0), 0);
            Due.fails("behind " + text, IllegalArgumentException.class, () -> x.end(1));
            Due.is("the empty text", x.load(), 0);
            Due.is("another text", Due.load(x, "test b{}"), SuiteKeeper.NONE);
        }
        Keeper y = new Keeper();
        Due.is("a full text", Due.load(y, " ".repeat(1500)), 1500);
        Due.is("and room behind it", y.put(0x20202020), 4);
    }

    private static void put(SuiteKeeper x, String text) {
        for (int k = 0; k < text.length(); k++) {
            x.put(text.charAt(k));
        }
    }

    private static void changes(SuiteKeeper x) {
        put(x, FIRST);
        x.load();
        x.run(2, 100);
        x.end(0);
        put(x, "test s{}");
        x.load();
        x.run(1, 0);
        x.trace(0);
    }

    /** Promise 4: "or its fault or misfit (all else stays)". */
    private static void allElseStays() {
        String[] texts = {"", "test", "test a{}$", "global g:int=7;test s{}x", "test s{check 1;}", "test n{y();}"};
        for (String text : texts) {
            Consumer<SuiteKeeper> with = x -> {
                changes(x);
                put(x, text);
                Due.is("load of " + text, x.load() != SuiteKeeper.NONE, true);
            };
            int count = FIRST.length() + 18 + text.length();
            State.same("behind a load of " + text, with, LoadEdges::changes, count,
                    new State.Call("step(9)", x -> x.step(9)), new State.Call("run(1, 9)", x -> x.run(1, 9)));
        }
        // also ahead of the first revision
        Keeper y = new Keeper();
        Due.is("a fault", Due.load(y, "test"), 4);
        Due.fails("no revision", IllegalStateException.class, () -> y.about(4));
        Due.is("a misfit", Due.load(y, "test a{x();}"), 5007);
        Due.fails("no revision still", IllegalStateException.class, () -> y.run(1, 1));
        Due.reload(y, "test a{}");
        Due.is("the first number", y.about(4), 1);
        Due.is("no revision ahead", y.change(3, 0), SuiteKeeper.NONE);
    }

    /** Promise 4: "NONE, and it is the revision"; term 4: "they are numbered from 1 on". */
    private static void itIsTheRevision() {
        Keeper x = Due.loaded(FIRST);
        Due.is("the first number", x.about(4), 1);
        x.run(1, 100);
        x.trace(0);
        Due.reload(x, FIRST);
        Due.is("the same text is another revision", x.about(4), 2);
        Due.is("against the one ahead", x.change(3, 0), 0);
        Due.fails("its trace is gone", IllegalStateException.class, () -> x.step(0));
        Due.fails("its run is gone", IllegalStateException.class, () -> x.slot(0, 0));
        Due.is("the records stay", x.about(5), 0);
        Due.is("a fault", Due.load(x, "test"), 4);
        Due.reload(x, "test z{}");
        Due.is("a fault has no number", x.about(4), 3);
        Due.is("its tests", x.about(3), 1);
        Due.is("no globals", x.about(0), 0);
        Due.is("no arrays", x.about(1), 0);
        Due.is("no routines", x.about(2), 0);
        Due.fails("no global", IndexOutOfBoundsException.class, () -> x.code(0, 0, 0));
    }
}
