/** Promise 1, a new object: "An empty text; no revision; an empty disk.", and the 512 calls that it is used for. */
public final class NewObjectEdges {
    public static void main(String[] args) {
        emptyText();
        emptyDisk();
        apart();
        theLastCall();
        Due.done("NewObjectEdges");
    }

    /** Promise 1: "An empty text". */
    private static void emptyText() {
        Due.is("no signs", new Keeper().put(0), 0);
        Due.is("the first one", new Keeper().put(' '), 1);
        Due.is("the end is the fault", new Keeper().load(), 0);
        new Keeper().end(0);
        Due.fails("end(1)", IllegalArgumentException.class, () -> new Keeper().end(1));
    }

    /** Promise 1: "an empty disk"; term 5: "all 0 at first, but block 0 that has 1, 0, 1". */
    private static void emptyDisk() {
        for (int from = 0; from < 16384; from += 512) {
            SuiteKeeper x = new SuiteKeeper();
            for (int k = from; k < from + 512; k++) {
                Due.is("disk(" + k + ")", x.disk(k), k == 0 || k == 2 ? 1 : 0);
            }
        }
        Keeper x = Due.loaded("test t{}");
        Due.is("an empty log", x.about(9), 0);
        Due.is("the half from block 0 on is live", x.about(10), 0);
        Due.is("its epoch", x.about(11), 1);
        Due.is("no block was written", x.about(7), 0);
        Due.is("no run was recorded", x.about(6), 0);
        Due.is("no record", x.why(0), 1);
    }

    /** Promise 1: a second object has nothing of the first one. */
    private static void apart() {
        Keeper x = Due.loaded("test t{}");
        x.run(1, 9);
        x.trace(0);
        Due.put(x, "te");
        Keeper y = new Keeper();
        Due.is("no signs", y.put(0), 0);
        Due.fails("no revision", IllegalStateException.class, () -> y.about(0));
        Due.fails("no trace", IllegalStateException.class, () -> y.traced(0));
        Due.is("an empty disk", y.disk(64), 0);
        Due.reload(y, "test t{}");
        Due.is("no record", y.why(0), 1);
        Due.is("the first one goes on", x.put(0), 2);
        Due.is("and has its record", x.why(0), 0);
    }

    /** "An object is used for at most 512 calls after it has been made": the 512th one answers as the first. */
    private static void theLastCall() {
        SuiteKeeper x = new SuiteKeeper();
        int calls = 0;
        String text = "test t{}";
        for (int k = 0; k < text.length(); k++, calls++) {
            x.put(text.charAt(k));
        }
        x.load();
        calls++;
        while (calls < 509) {
            Due.is("nothing is written", x.run(1, 0), 0);
            calls++;
        }
        Due.is("the 510th call", x.run(64, 1), 1);
        Due.is("the 511th call", x.verdict(0), 0);
        Due.is("the 512th call", x.about(9), 31);
        // as many loads as there can be: each text needs some signs
        SuiteKeeper y = new SuiteKeeper();
        for (int number = 1; number <= 127; number++) {
            y.put('t' | 'e' << 8 | 's' << 16 | 't' << 24);
            y.put(' ' | 't' << 8 | '{' << 16 | '}' << 24);
            Due.is("load", y.load(), SuiteKeeper.NONE);
            Due.is("its number", y.about(4), number);
        }
    }
}
