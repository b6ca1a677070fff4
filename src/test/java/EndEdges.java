/** Promise 3, end. */
public final class EndEdges {
    public static void main(String[] args) {
        firstSigns();
        refused();
        fullText();
        Due.done("EndEdges");
    }

    /** Promise 3: "The text has its first n signs." */
    private static void firstSigns() {
        String text = "test a{}test b{}";
        int[] due = {0, 0, 0, 0, 4, 5, 6, 7, -1, 8, 8, 8, 12, 13, 14, 15, -1};
        for (int n = 0; n <= text.length(); n++) {
            Keeper x = new Keeper();
            Due.put(x, text);
            x.end(n);
            Due.is("how many", x.put(0), n);
            Due.is("load", x.load(), due[n]);
        }
        Keeper y = new Keeper();
        Due.put(y, "test a$");
        y.end(6);
        Due.put(y, "b{}");
        y.end(9);
        y.end(9);
        Due.is("put behind it", y.load(), SuiteKeeper.NONE);
        Due.reload(y, "test n{}");
        Due.is("a", y.gone(0, 0), 'a');
        Due.is("b", y.gone(0, 1), 'b');
    }

    /** Promise 3: "IllegalArgumentException if n is below 0 or above how many there are." */
    private static void refused() {
        Class<IllegalArgumentException> wrong = IllegalArgumentException.class;
        Keeper x = new Keeper();
        x.end(0);
        Due.fails("1 of 0", wrong, () -> x.end(1));
        Due.fails("-1 of 0", wrong, () -> x.end(-1));
        Due.put(x, "test a{}");
        Due.fails("9 of 8", wrong, () -> x.end(9));
        Due.fails("-1 of 8", wrong, () -> x.end(-1));
        Due.fails("the least", wrong, () -> x.end(Integer.MIN_VALUE));
        Due.fails("the greatest", wrong, () -> x.end(Integer.MAX_VALUE));
        Due.is("all are there", x.put(0), 8);
        x.end(8);
        Due.is("all are there still", x.put(0), 8);
        x.end(7);
        Due.fails("what was there doesn't come back", wrong, () -> x.end(8));
        x.end(0);
        Due.fails("nor the first", wrong, () -> x.end(1));
        Due.is("the empty text", x.load(), 0);
        // "Loads the text, which is empty then in any case"
        Due.reload(x, "test a{}");
        Due.fails("behind a load", wrong, () -> x.end(1));
        Due.is("a fault", Due.load(x, "test"), 4);
        Due.fails("behind a fault", wrong, () -> x.end(1));
        x.end(0);
    }

    /** Promise 3, at the 1500 signs of promise 2. */
    private static void fullText() {
        Keeper x = new Keeper();
        Due.put(x, "test a{}" + " ".repeat(1491) + "$");
        Due.fails("1501", IllegalArgumentException.class, () -> x.end(1501));
        x.end(1500);
        Due.fails("no room", UnsupportedOperationException.class, () -> x.put(' '));
        x.end(1499);
        Due.is("room for one", x.put(' '), 1500);
        Due.is("load", x.load(), SuiteKeeper.NONE);
    }
}
