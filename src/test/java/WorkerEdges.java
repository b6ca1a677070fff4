/** Promises 22 and 23, run and slot: who runs what when, from term 6. */
public final class WorkerEdges {
    /** Tests with fuels 0 to 5. */
    private static final String CALLS = "proc p(){}test a{}test b{p();}test c{p();p();}test d{p();p();p();}"
            + "test e{p();p();p();p();}test f{p();p();p();p();p();}";

    public static void main(String[] args) {
        oneWorker();
        twoWorkers();
        moreThanTests();
        ofThoseAlikeByNumber();
        byEstimates();
        estimateOfARecordThatDoesNotHold();
        allFuel();
        recordedByTimes();
        whoWasRecorded();
        nothingPicked();
        theLatest();
        refused();
        Due.done("WorkerEdges");
    }

    private static void slots(String when, Keeper x, int what, int... want) {
        for (int i = 0; i < want.length; i++) {
            Due.is(when + ": slot(" + i + ", " + what + ")", x.slot(i, what), want[i]);
        }
        Due.fails(when + ": no more slots", IndexOutOfBoundsException.class, () -> x.slot(want.length, what));
    }

    /** Promise 22, term 6: "A run with W workers, 1 .. 64"; "begins when that is free (from 0 on), and takes one more than its fuel". */
    private static void oneWorker() {
        Keeper x = Due.loaded(CALLS);
        Due.is("run", x.run(1, 1000), 6);
        slots("one", x, 0, 0, 1, 2, 3, 4, 5);
        slots("one", x, 1, 0, 0, 0, 0, 0, 0);
        slots("one", x, 2, 0, 1, 3, 6, 10, 15);
        slots("one", x, 3, 1, 3, 6, 10, 15, 21);
        slots("one", x, 4, 1, 1, 1, 1, 1, 1);
    }

    /** Promise 22, term 6: "Each in turn goes to the worker that is free first, of several the least one". */
    private static void twoWorkers() {
        Keeper x = Due.loaded(CALLS);
        x.run(2, 1000);
        slots("two", x, 1, 0, 1, 0, 1, 0, 1);
        slots("two", x, 2, 0, 0, 1, 2, 4, 6);
        slots("two", x, 3, 1, 2, 4, 6, 9, 12);
        Keeper y = Due.loaded(CALLS);
        y.run(3, 1000);
        slots("three", y, 1, 0, 1, 2, 0, 1, 2);
        slots("three", y, 2, 0, 0, 0, 1, 2, 3);
        slots("three", y, 3, 1, 2, 3, 5, 7, 9);
        // several are free at the same time: the least one, not the one that was free longest
        Keeper z = Due.loaded(Texts.times("test tN{}", 12));
        z.run(5, 1000);
        slots("five", z, 1, 0, 1, 2, 3, 4, 0, 1, 2, 3, 4, 0, 1);
        slots("five", z, 2, 0, 0, 0, 0, 0, 1, 1, 1, 1, 1, 2, 2);
    }

    /** Promise 22, term 6: as many workers as tests, one more, and 64. */
    private static void moreThanTests() {
        int[] workers = {12, 13, 63, 64};
        for (int many : workers) {
            Keeper x = Due.loaded(Texts.times("test tN{}", 12));
            Due.is("run", x.run(many, 1000), 12);
            slots("each its own of " + many, x, 1, 0, 1, 2, 3, 4, 5, 6, 7, 8, 9, 10, 11);
            slots("from 0 on", x, 2, new int[12]);
            Due.is("when all ended", x.about(13), 1);
        }
        Keeper y = Due.loaded(Texts.times("test tN{}", 12));
        y.run(11, 1000);
        Due.is("the twelfth", y.slot(11, 1), 0);
        Due.is("begins behind the first", y.slot(11, 2), 1);
    }

    /** Promise 22, term 6: "the greatest first, of those alike by number: .. 3000 without one". */
    private static void ofThoseAlikeByNumber() {
        Keeper x = Due.loaded("proc p(){}test a{}test b{p();}test c{}test d{p();}test e{}");
        x.run(1, 1000);
        slots("without records", x, 0, 0, 1, 2, 3, 4);
        Due.reload(x, "proc p(){return;}test a{check true;}test b{p();}test c{check true;}test d{p();}test e{check true;}test f{}");
        x.run(1, 0);
        slots("with records", x, 0, 5, 1, 3, 0, 2, 4);
        Due.reload(x, "test f{}proc p(){return;}test e{check true;}test d{p();}test c{check true;}test b{p();}test a{check true;}");
        x.run(1, 0);
        slots("by other numbers", x, 0, 0, 2, 4, 1, 3, 5);
    }

    /** Promise 22, term 6: "in the order of their ESTIMATES .. : the fuel that the last record took". */
    private static void byEstimates() {
        Keeper x = Due.loaded(CALLS);
        x.run(1, 1000);
        Due.reload(x, CALLS.replace("proc p(){}", "proc p(){return;}").replace("test a{", "test a{check true;") + "test g{}");
        Due.is("all are picked", x.about(5), 7);
        x.run(2, 0);
        slots("by estimates", x, 0, 6, 5, 4, 3, 2, 1, 0);
        slots("by estimates", x, 1, 0, 1, 0, 0, 1, 1, 0);
        slots("by estimates", x, 2, 0, 0, 1, 6, 6, 9, 10);
        slots("by estimates", x, 3, 1, 6, 6, 10, 9, 11, 11);
        // the time that it takes is that of this run, not its estimate
        Keeper y = Due.loaded("global n:int=5;test a{let i=0;while(i<n){i=i+1;}}test b{let i=0;while(i<3){i=i+n/n;}}");
        y.run(1, 1000);
        slots("first", y, 3, 6, 10);
        Due.reload(y, "global n:int=2;test a{let i=0;while(i<n){i=i+1;}}test b{let i=0;while(i<3){i=i+n/n;}}");
        y.run(1, 1000);
        slots("a is still estimated with 5", y, 0, 0, 1);
        slots("but takes 3", y, 3, 3, 7);
        Due.reload(y, "global n:int=9;test a{let i=0;while(i<n){i=i+1;}}test b{let i=0;while(i<3){i=i+n/n;}}");
        y.run(1, 1000);
        slots("the last record counts: 2 is below 3", y, 0, 1, 0);
        slots("the last record counts", y, 3, 4, 14);
    }

    /** Promise 22, term 6: the estimate is the last record's "whether it holds or not", of the test's name. */
    private static void estimateOfARecordThatDoesNotHold() {
        Keeper x = Due.loaded("proc p(){}test a{p();}test b{p();p();}");
        x.run(1, 1000);
        Due.reload(x, "test z{}");
        x.run(1, 1000);
        Due.reload(x, "test a{let y=1;}test n{}test b{let y=1;}");
        x.run(1, 1000);
        slots("a new one, then 2, then 1", x, 0, 1, 2, 0);
        Due.is("both ended at once", x.slot(2, 3), 3);
    }

    /** Promise 22, term 6: an estimate of all fuel is like that of a test without a record. */
    private static void allFuel() {
        Keeper x = Due.loaded("test a{while(true){}}test b{let i=0;while(i<2999){i=i+1;}}");
        x.run(2, 1000);
        slots("times", x, 3, 3001, 3000);
        Due.is("the last ended", x.about(8), 3001);
        Due.reload(x, "test c{}test b{let i=0;while(i<2999){i=i+1;}check true;}test a{while(true){check true;}}test d{}");
        x.run(1, 1000);
        slots("c, a and d by number, then b", x, 0, 0, 2, 3, 1);
        slots("c, a and d by number, then b", x, 3, 1, 3002, 3003, 6003);
    }

    private static String recordOrder(Keeper x) {
        StringBuilder order = new StringBuilder();
        for (String line : Due.entries(x, x.about(10)).split("\n")) {
            if (line.startsWith("record")) {
                order.append(line.charAt(7));
            }
        }
        return order.toString();
    }

    /** Promise 22, term 6: "Runs END; by times, of those alike by workers, they are recorded". */
    private static void recordedByTimes() {
        // a till 4 on 0, b till 1 on 1, c till 4 on 1, d till 5 on 0, e till 5 on 1
        Keeper x = Due.loaded("proc p(){}test a{p();p();p();}test b{}test c{p();p();}test d{}test e{}");
        Due.is("run", x.run(2, 1000), 5);
        Due.is("order", recordOrder(x), "bacde");
        Keeper y = Due.loaded("proc p(){}test a{p();p();}test b{p();}test c{}");
        Due.is("run", y.run(3, 1000), 3);
        Due.is("backwards", recordOrder(y), "cba");
        Keeper z = Due.loaded("proc p(){}test a{p();p();}test b{p();}test c{}");
        z.run(1, 1000);
        Due.is("one worker", recordOrder(z), "abc");
        // at the same time: the least worker first, though it began later
        Keeper w = Due.loaded("proc p(){}test a{}test b{p();}test c{}");
        w.run(2, 1000);
        slots("workers", w, 1, 0, 1, 0);
        slots("ends", w, 3, 1, 2, 2);
        Due.is("worker 0 first", recordOrder(w), "acb");
    }

    /** Promise 23: "4 whether it was recorded (1 or 0)"; promise 22: "then a crash stops all". */
    private static void whoWasRecorded() {
        // c ends first, then b, then a; each has more than a block
        String text = "proc p(){}test a{p();p();let x=1+2+3+4+5+6;}test b{p();let x=1+2+3+4+5+6;}test c{let x=1+2+3+4+5+6;}";
        Keeper x = Due.loaded(text);
        Due.is("c alone", x.run(3, 2), 1);
        slots("tests", x, 0, 0, 1, 2);
        slots("recorded", x, 4, 0, 0, 1);
        slots("times are as planned", x, 3, 3, 2, 1);
        Due.is("c ended", x.about(8), 1);
        Due.is("the last would have ended", x.about(13), 3);
        Due.is("the rest", x.run(3, 1000), 2);
        slots("a and b alone", x, 0, 0, 1);
        slots("recorded", x, 4, 1, 1);
        Due.is("a ended", x.about(8), 3);
    }

    /** Promise 22, term 6: "(With nothing picked it is the latest run all the same, with no slots.)" */
    private static void nothingPicked() {
        Keeper x = Due.loaded("test a{}");
        x.run(1, 1000);
        Due.is("one slot", x.slot(0, 0), 0);
        Due.is("nothing is picked", x.run(1, 1000), 0);
        Due.fails("no slots", IndexOutOfBoundsException.class, () -> x.slot(0, 0));
        Due.is("13", x.about(13), 0);
        Due.is("14", x.about(14), 0);
        Due.is("8", x.about(8), 0);
        Keeper y = Due.loaded("proc p(){}");
        Due.is("no tests", y.run(64, 0), 0);
        Due.fails("no slots", IndexOutOfBoundsException.class, () -> y.slot(0, 9));
    }

    /** Promise 23: "of the latest run()"; "IllegalStateException if there was none in this revision". */
    private static void theLatest() {
        Keeper x = Due.loaded(CALLS);
        Due.fails("no run", IllegalStateException.class, () -> x.slot(0, 0));
        x.run(1, 0);
        Due.is("by one", x.slot(5, 1), 0);
        x.run(6, 0);
        Due.is("by six", x.slot(5, 1), 5);
        Due.fails("a refused run", IllegalArgumentException.class, () -> x.run(0, 0));
        Due.is("is none", x.slot(5, 1), 5);
        Due.is("a misfit", Due.load(x, "test a{z();}"), 5007);
        Due.is("is no revision", x.slot(5, 1), 5);
        Due.reload(x, CALLS);
        Due.fails("none in this revision", IllegalStateException.class, () -> x.slot(0, 0));
        Due.fails("whatever is asked", IllegalStateException.class, () -> x.slot(-1, -1));
        x.run(1, 1000);
        Due.is("another one", x.slot(5, 3), 21);
    }

    /** Promise 22: "IllegalArgumentException if workers are not 1 .. 64, or most is below 0"; promise 23: its exceptions. */
    private static void refused() {
        Class<IllegalArgumentException> wrong = IllegalArgumentException.class;
        Class<IndexOutOfBoundsException> none = IndexOutOfBoundsException.class;
        Keeper x = Due.loaded(Texts.times("test tN{}", 12));
        int[] workers = {0, -1, 65, 66, Integer.MAX_VALUE, Integer.MIN_VALUE};
        for (int many : workers) {
            Due.fails("run(" + many + ", 9)", wrong, () -> x.run(many, 9));
            Due.fails("no revision", IllegalStateException.class, () -> new Keeper().run(many, 9));
        }
        int[] blocks = {-1, -2, Integer.MIN_VALUE};
        for (int most : blocks) {
            Due.fails("run(1, " + most + ")", wrong, () -> x.run(1, most));
            Due.fails("no revision", IllegalStateException.class, () -> new Keeper().run(1, most));
        }
        Due.fails("those were no runs", IllegalStateException.class, () -> x.slot(0, 0));
        Due.is("nothing is written", x.about(7), 0);
        Due.is("1 worker, 0 blocks", x.run(1, 0), 0);
        Due.is("64 workers, as many blocks as there are numbers", x.run(64, Integer.MAX_VALUE), 12);
        Due.is("the last slot", x.slot(11, 0), 11);
        int[] slots = {-1, 12, 13, Integer.MAX_VALUE, Integer.MIN_VALUE};
        for (int i : slots) {
            Due.fails("slot(" + i + ", 0)", none, () -> x.slot(i, 0));
            Due.fails("slot(" + i + ", 5): the slot comes first", none, () -> x.slot(i, 5));
            Due.fails("no revision", IllegalStateException.class, () -> new Keeper().slot(i, 5));
        }
        int[] whats = {-1, 5, 6, Integer.MAX_VALUE, Integer.MIN_VALUE};
        for (int what : whats) {
            Due.fails("slot(0, " + what + ")", wrong, () -> x.slot(0, what));
        }
    }
}
