/** Promise 22: run, up to the crash and behind it. */
public final class RunTest {
    public static void main(String[] args) {
        ordinary();
        recordedInTheOrderOfEnds();
        crashAfterEachBlock();
        crashLeavesItems();
        wrongInputs();
        Due.done("RunTest");
    }

    private static void ordinary() {
        Keeper x = Due.loaded("global g:int=1;test s{check g==1;}test t{}");
        Due.is("both", x.run(64, Integer.MAX_VALUE), 2);
        Due.is("nothing is picked", x.run(1, 1000), 0);
        Due.is("the first block twice, the second one, and nothing then", x.about(7), 3);
        Due.reload(x, "global g:int=2;test s{check g==1;}test t{}test u{}");
        Due.is("s and u", x.about(5), 2);
        Due.is("s and u", x.run(1, 1000), 2);
        Due.is("s", x.verdict(0), 1);
        Due.is("of this revision", x.record(0, 4), 2);
        Due.is("t wasn't run again", x.record(1, 4), 1);
        Keeper y = Due.loaded("global g:int=1;");
        Due.is("no tests", y.run(1, 0), 0);
    }

    private static void recordedInTheOrderOfEnds() {
        // without records all have one estimate: t on worker 0 till 4, u on 1 till 1, v on 1 till 4, w on 0
        Keeper x = Due.loaded("test t{p();p();p();}test u{}test v{p();p();}test w{}proc p(){}");
        Due.is("four", x.run(2, 1000), 4);
        String[] lines = Due.entries(x, 0).split("\n");
        StringBuilder order = new StringBuilder();
        for (String line : lines) {
            if (line.startsWith("record")) {
                order.append(line.charAt(7));
            }
        }
        Due.is("by times, then by workers", order.toString(), "utvw");
    }

    /** Whatever number of blocks is told, what is recorded holds, and the rest is picked. */
    private static void crashAfterEachBlock() {
        StringBuilder text = new StringBuilder("global g:int=1;array b[3];func f(n:int):int{b[0]=n;return g+n;}");
        for (int k = 0; k < 6; k++) {
            text.append("test t").append((char) ('a' + k)).append("{check f(").append(k).append(")==").append(k + 1)
                    .append("&f(1)+f(2)+f(3)+f(4)==14;check f(0)==").append(k % 2).append(";}");
        }
        int last = -1;
        for (int most = 0; most <= 20; most++) {
            Keeper x = Due.loaded(text.toString());
            int recorded = x.run(2, most);
            Due.is("no fewer with more blocks", recorded >= last, true);
            last = recorded;
            Due.is("recorded", x.about(6), recorded);
            Due.is("picked", x.about(5), 6 - recorded);
            int slots = 0;
            for (int test = 0; test < 6; test++) {
                slots += x.slot(test, 4);
                boolean has = x.why(test) == 0;
                Due.is("its verdict", x.verdict(test), has ? 1 - test % 2 : SuiteKeeper.NONE);
            }
            Due.is("slots recorded", slots, recorded);
            Due.is("blocks, unless the log was made anew", x.about(7) <= most || x.about(10) == 1, true);
            Due.is("what is on the disk is whole", Due.entries(x, x.about(10)).contains("broken"), false);
            Due.is("all of it counts", Due.log(x, x.about(10)).size(), x.about(9));
            Due.is("the rest", x.run(2, 1000), 6 - recorded);
            Due.is("none is picked", x.about(5), 0);
        }
        Due.is("all at last", last, 6);
    }

    /** Items' entries that are whole stay in the log, though their record isn't there. */
    private static void crashLeavesItems() {
        Keeper x = Due.loaded("test testabc{let a=1;let b=2;let c=3;let d=4;let e=5;check a<2;}");
        int size = Due.bytes(x, 3, 0).split(" ").length;
        Due.is("bytes of the test", size, 6 + 5 * 7 + 2 + 5 + 1 + 2 + 1 + 1);
        Due.is("a block, then a crash", x.run(1, 1), 0);
        Due.is("an entry of 66 isn't whole in it, so nothing is left", x.about(9), 0);
        Due.is("made anew: both heads", x.about(7), 3);
        Due.is("in the other half", x.about(10), 1);
        Keeper y = Due.loaded("test testabcd{let a=1;let b=2;let c=3;let d=4;let e=a;let f=e;}");
        int bytes = Due.bytes(y, 3, 0).split(" ").length;
        Due.is("bytes of the test", bytes, 6 + 4 * 7 + 2 * 4 + 1 + 1);
        // an entry of 2 + 4 + 8 + 44 bytes, and three of the record, are in the block
        Due.is("a crash ahead of the record's end", y.run(1, 1), 0);
        Due.is("a record's beginning isn't whole", y.about(10), 1);
        Keeper z = Due.loaded("test testabc{let a=1;let b=2;let c=3;let d=4;let e=a;let f=e;let g=f;}");
        // 2 + 4 + 7 + 48 = 61: the block ends with the entry
        Due.is("bytes of the test", Due.bytes(z, 3, 0).split(" ").length, 48);
        Due.is("a crash behind the item's entry", z.run(1, 1), 0);
        Due.is("the log is whole", z.about(10), 0);
        Due.is("and has the item", z.about(9), 61);
        Due.is("one block", z.about(7), 1);
        Due.is("no record", z.why(0), 1);
        Due.is("run again", z.run(1, 1), 1);
        Due.is("the record alone was put behind", z.about(9), 61 + 22);
    }

    private static void wrongInputs() {
        Keeper x = Due.loaded("test t{}");
        Class<IllegalArgumentException> wrong = IllegalArgumentException.class;
        Due.fails("0 workers", wrong, () -> x.run(0, 1));
        Due.fails("65 workers", wrong, () -> x.run(65, 1));
        Due.fails("-1 workers", wrong, () -> x.run(-1, 1));
        Due.fails("-1 blocks", wrong, () -> x.run(1, -1));
        Due.fails("least", wrong, () -> x.run(1, Integer.MIN_VALUE));
        Due.fails("that was no run", IllegalStateException.class, () -> x.slot(0, 0));
        Due.fails("no revision", IllegalStateException.class, () -> new Keeper().run(0, -1));
        Due.is("it is picked still", x.run(1, 0), 0);
        Due.is("it is picked still", x.run(64, 1), 1);
    }
}
