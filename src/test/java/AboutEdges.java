/** Promise 5, about. */
public final class AboutEdges {
    public static void main(String[] args) {
        counts();
        numbersAndPicked();
        recorded();
        written();
        lastRecorded();
        log();
        gone();
        lastEnded();
        leastTime();
        refused();
        Due.done("AboutEdges");
    }

    /** Promise 5: "0 how many globals, 1 arrays, 2 routines, 3 tests the revision has". */
    private static void counts() {
        int[][] due = {{10, 4, 16, 12}, {1, 0, 0, 0}, {0, 1, 0, 0}, {0, 0, 1, 0}, {0, 0, 0, 1}};
        String[] texts = {Texts.fullOfItems(), "global g:int=1;", "array a[1];", "func f():int{}", "test t{}"};
        Keeper x = new Keeper();
        for (int n = 0; n < texts.length; n++) {
            Due.reload(x, texts[n]);
            for (int what = 0; what < 4; what++) {
                Due.is("about(" + what + ") of " + texts[n], x.about(what), due[n][what]);
            }
        }
    }

    /** Promise 5: "4 its number, 5 how many of its tests are picked". */
    private static void numbersAndPicked() {
        Keeper x = Due.loaded("global g:int=1;");
        Due.is("1", x.about(4), 1);
        Due.is("no tests, none is picked", x.about(5), 0);
        Due.reload(x, Texts.times("test tN{}", 12));
        Due.is("2", x.about(4), 2);
        Due.is("all twelve", x.about(5), 12);
        x.run(1, 1);
        Due.is("all but one", x.about(5), 11);
        x.run(1, 1000);
        Due.is("none", x.about(5), 0);
        Due.reload(x, Texts.times("test tN{}", 11) + "test tl{check true;}");
        Due.is("3", x.about(4), 3);
        Due.is("the twelfth", x.about(5), 1);
    }

    /** Promise 5: "6 how many runs were recorded since the beginning (also if the record went later)". */
    private static void recorded() {
        Keeper x = Due.loaded("test a{}");
        Due.is("none", x.about(6), 0);
        x.run(1, 0);
        Due.is("none by a crash", x.about(6), 0);
        x.run(1, 1);
        Due.is("one", x.about(6), 1);
        Due.reload(x, "test b{let x=1+2+3+4+5+6+7+8+9;}");
        Due.is("a crash in b's entry", x.run(1, 1), 0);
        Due.is("the log has been made anew without a", x.about(9), 0);
        Due.is("its record went", x.about(6), 1);
        x.run(1, 100);
        Due.is("two", x.about(6), 2);
        Due.reload(x, "test a{}");
        Due.is("a has no record", x.why(0), 1);
        x.run(1, 100);
        Due.is("again is another one", x.about(6), 3);
    }

    /** Promise 5: "7 how many blocks were written since then (behind a crash, too)". */
    private static void written() {
        Keeper x = Due.loaded("test a{}test b{}test c{}");
        Due.is("none", x.about(7), 0);
        x.run(1, 0);
        Due.is("none yet", x.about(7), 0);
        x.run(1, 1);
        Due.is("one for a", x.about(7), 1);
        // b fills the first block's 61 and has one byte in the second one
        x.run(1, 1);
        Due.is("one of b's two, then block, head and old head", x.about(7), 1 + 1 + 3);
        Due.is("a's record is kept", x.why(0), 0);
        x.run(1, 100);
        Due.is("two for b, one for c", x.about(7), 5 + 3);
        x.run(1, 100);
        Due.is("nothing is picked", x.about(7), 8);
        Due.reload(x, "test a{}");
        Due.is("it stays when another revision comes", x.about(7), 8);
    }

    /** Promise 5: "8 when the last of the latest run()'s tests that was recorded ended (0 if none was; it stays ..)". */
    private static void lastRecorded() {
        String text = "proc p(){}test a{p();p();p();}test b{}test c{p();}";
        Keeper x = Due.loaded(text);
        Due.is("no run", x.about(8), 0);
        x.run(3, 0);
        Due.is("none was recorded", x.about(8), 0);
        x.run(3, 1000);
        Due.is("a is the first in the text and the last to end", x.about(8), 4);
        Due.reload(x, "test n{}");
        Due.is("it stays when another revision comes", x.about(8), 4);
        x.run(1, 1000);
        Due.is("the latest run's", x.about(8), 1);
        Due.is("a fault", Due.load(x, "test"), 4);
        Due.is("it stays", x.about(8), 1);
        x.run(1, 1000);
        Due.is("none was, as none was picked", x.about(8), 0);
        // b ends at 1 and c at 2; then the blocks are gone
        Keeper y = Due.loaded(text);
        Due.is("one", y.run(3, 1), 1);
        Due.is("b ended", y.about(8), 1);
        Due.is("a would have ended", y.about(13), 4);
    }

    /** Promise 5: "9 how many bytes the log has, 10 the live half (0, 1), 11 its epoch". */
    private static void log() {
        Keeper x = Due.loaded("test a{}test b{check 1+2+3+4+5+6+7==28;}");
        int[] empty = {0, 0, 1};
        int[] one = {31, 0, 1};
        int[] other = {31, 1, 2};
        int[] third = {31, 0, 3};
        log(x, empty);
        x.run(1, 1);
        log(x, one);
        x.run(1, 1);
        log(x, other);
        x.run(1, 1);
        log(x, third);
        x.run(1, 2);
        log(x, third.clone(), 31 + 7 + 6 + 8 * 5 + 7 + 2 + 1 + 1 + 16);
        Due.reload(x, "test z{}");
        log(x, third.clone(), 31 + 7 + 6 + 8 * 5 + 7 + 2 + 1 + 1 + 16);
    }

    private static void log(Keeper x, int[] due) {
        for (int k = 0; k < 3; k++) {
            Due.is("about(" + (9 + k) + ")", x.about(9 + k), due[k]);
        }
    }

    private static void log(Keeper x, int[] due, int bytes) {
        due[0] = bytes;
        log(x, due);
    }

    /** Promise 5: "12 how many items are GONE". */
    private static void gone() {
        Keeper x = Due.loaded(Texts.fullOfItems());
        Due.is("no revision ahead", x.about(12), 0);
        Due.reload(x, "test z{}");
        Due.is("all", x.about(12), 42);
        Due.reload(x, "test z{}");
        Due.is("none", x.about(12), 0);
        Due.reload(x, "proc z(){}");
        Due.is("none, by its name", x.about(12), 0);
        Due.reload(x, "proc y(){}");
        Due.is("one", x.about(12), 1);
    }

    /** Promise 5: "(0 if there was none in this revision): 13 when the last one ended, recorded or not". */
    private static void lastEnded() {
        Keeper x = Due.loaded("proc p(){}test a{p();p();p();p();}test b{}test c{p();}");
        Due.is("no run", x.about(13), 0);
        x.run(1, 0);
        Due.is("5 and 1 and 2, one behind the other", x.about(13), 8);
        x.run(2, 0);
        Due.is("5, and 1 and 2", x.about(13), 5);
        x.run(64, 0);
        Due.is("5", x.about(13), 5);
        x.run(2, 1000);
        Due.is("recorded", x.about(13), 5);
        x.run(2, 1000);
        Due.is("nothing was picked", x.about(13), 0);
        Due.reload(x, "test n{}");
        x.run(1, 0);
        Due.is("one", x.about(13), 1);
        Due.reload(x, "test n{}");
        Due.is("none in this revision", x.about(13), 0);
        Due.is("none in this revision", x.about(14), 0);
    }

    /** Promise 5: "14 the greater of: the longest of their times ..; all of these together, divided by the workers, up". */
    private static void leastTime() {
        Keeper x = Due.loaded("proc p(){}test a{p();p();}test b{}test c{}test d{}test e{}test f{}");
        // 3 and five times 1: 8 together
        int[] workers = {1, 2, 3, 4, 5, 7, 8, 9, 64};
        int[] due = {8, 4, 3, 3, 3, 3, 3, 3, 3};
        for (int k = 0; k < workers.length; k++) {
            x.run(workers[k], 0);
            Due.is("with " + workers[k], x.about(14), due[k]);
        }
        Keeper y = Due.loaded(Texts.times("test tN{}", 12));
        int[] up = {12, 6, 4, 3, 3, 2, 2, 2, 2, 2, 2, 1, 1};
        for (int k = 0; k < up.length; k++) {
            y.run(k + 1, 0);
            Due.is("twelve by " + (k + 1), y.about(14), up[k]);
        }
        Keeper z = Due.loaded("test a{while(true){}}test b{}");
        z.run(2, 0);
        Due.is("one more than all the fuel", z.about(14), 3001);
        z.run(1, 0);
        Due.is("and another one", z.about(14), 3002);
        // what they took, not what was estimated, and not from when on
        Keeper w = Due.loaded("global g:int=1;test a{}");
        w.run(64, 1000);
        w.run(64, 1000);
        Due.is("nothing was picked", w.about(14), 0);
    }

    /** Promise 5: "IllegalStateException if there is no revision; IllegalArgumentException for another what." */
    private static void refused() {
        Keeper x = Due.loaded("test a{}");
        int[] others = {-1, 15, 16, 255, 256, -15, Integer.MAX_VALUE, Integer.MIN_VALUE};
        for (int what : others) {
            Due.fails("about(" + what + ")", IllegalArgumentException.class, () -> x.about(what));
            Due.fails("about(" + what + ")", IllegalStateException.class, () -> new Keeper().about(what));
        }
        for (int k = 0; k <= 14; k++) {
            int what = k;
            Due.fails("about(" + what + ")", IllegalStateException.class, () -> new Keeper().about(what));
        }
    }
}
