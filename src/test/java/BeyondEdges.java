/**
 * Promises 21 and 22: numbers of two bytes in the log, and the epoch that wraps around, from term 5.
 *
 * <p>512 calls don't come to 256 revisions, 256 entries or 65535 epochs, so that these objects get more
 * calls than the document speaks of: there is no other way to see that its sentences hold.
 */
public final class BeyondEdges {
    public static void main(String[] args) {
        manyRevisions();
        manyEntries();
        epochWraps();
        Due.done("BeyondEdges");
    }

    /** Promise 21, term 5: "the revision's number in two". */
    private static void manyRevisions() {
        Keeper x = Keeper.beyond();
        for (int number = 1; number <= 258; number++) {
            Due.reload(x, "test a{}");
            Due.is("its number", x.about(4), number);
        }
        x.run(1, 1000);
        Due.is("258", x.record(0, 4), 258);
        Due.is("lowest first", Due.entries(x, 0).split("\n")[1], "record a 0 0 0 0 0 0 2 1 0 0 0");
    }

    /** Promise 21, term 5: "its number (from 0 on, in the order in which items' entries come in this log) in two bytes". */
    private static void manyEntries() {
        Keeper x = Keeper.beyond();
        // four arrays a revision, with 32 sizes of each; then four others, and so another test
        for (int number = 0; number < 65; number++) {
            StringBuilder arrays = new StringBuilder();
            StringBuilder sum = new StringBuilder("0");
            for (int k = 0; k < 4; k++) {
                char name = (char) ('a' + 4 * (number / 32) + k);
                arrays.append("array ").append(name).append('[').append(number % 32 + 1).append("];");
                sum.append('+').append(name).append("[0]");
            }
            Due.reload(x, arrays + "test t{check " + sum + "==1;}");
            Due.is("recorded", x.run(1, 1000), 1);
        }
        Due.is("not made anew", x.about(11), 1);
        String[] lines = Due.entries(x, 0).split("\n");
        Due.is("arrays, tests and records", lines.length, 4 * 65 + 3 + 65);
        Due.is("the last item", lines[lines.length - 2], "item 262 l 1 1");
        Due.is("the last record: its check in 258", lines[lines.length - 1], "record t 1 2 1 0 0 0 65 0 2 1 4 3 1 4 1 5 1 6 1");
        Due.is("a crash reads it again", x.run(1, 0), 0);
        Due.is("it holds", x.why(0), 0);
        Due.is("its check", x.touched(0, 3, SuiteKeeper.NONE), true);
        Due.is("the last array", x.touched(0, 1, 3), true);
    }

    /** Promise 22, term 5: "(65535 being followed by 1)". */
    private static void epochWraps() {
        Keeper x = Keeper.beyond();
        Due.reload(x, "test b{check 1+2+3+4+5+6+7+8+9==45;}");
        for (int epoch = 2; epoch <= 65535; epoch++) {
            x.run(1, 1);
        }
        Due.is("the last one", x.about(11), 65535);
        int half = x.about(10);
        Due.is("both bytes", x.disk(8192 * half) + x.disk(8192 * half + 1), 510);
        Due.is("a crash", x.run(1, 1), 0);
        Due.is("followed by 1", x.about(11), 1);
        Due.is("in the other half", x.about(10), 1 - half);
        Due.is("the old head doesn't count", x.disk(8192 * half + 2), 0);
        Due.is("the head counts", x.disk(8192 * (1 - half) + 2), 1);
        Due.is("its epoch", x.disk(8192 * (1 - half)) + 256 * x.disk(8192 * (1 - half) + 1), 1);
        // block 1 of the other half has 65535 still, so that 1 follows again; then that of this half has 1
        Due.is("a crash", x.run(1, 1), 0);
        Due.is("again", x.about(11), 1);
        Due.is("a crash", x.run(1, 1), 0);
        Due.is("then 2", x.about(11), 2);
        Due.is("run", x.run(1, 1000), 1);
        Due.is("it holds", x.why(0), 0);
    }
}
