/** Promise 21, disk, with the blocks and entries of term 5. */
public final class DiskEdges {
    /** Tests whose item and record have 60, 61 and 62 bytes in the log. */
    private static final String SIXTY = "test a{let p=1;let q=1;" + Texts.times("let xN=true;", 5) + "}";
    private static final String SIXTY_ONE = "test a{" + Texts.times("let xN=true;", 10) + "}";
    private static final String SIXTY_TWO = "test a{let p=1;" + Texts.times("let xN=true;", 8) + "}";

    public static void main(String[] args) {
        bytes();
        firstBlocks();
        behindTheFirst();
        exactBlocks();
        theRestIsZero();
        otherEpochs();
        itemEntries();
        recordEntries();
        noSecondEntry();
        refused();
        Due.done("DiskEdges");
    }

    private static void block(String when, Keeper x, int block, int epoch, int held) {
        Due.is(when + ": epoch of block " + block, x.disk(64 * block) + 256 * x.disk(64 * block + 1), epoch);
        Due.is(when + ": bytes in block " + block, x.disk(64 * block + 2), held);
    }

    private static Keeper run(String text) {
        Keeper x = Due.loaded(text);
        x.run(1, 1000);
        return x;
    }

    /** Promise 21: "Byte k of the disk, 0 .. 255." */
    private static void bytes() {
        Keeper x = run("global g:int=-1;test t{check g==-1;}");
        // the test: 2 + 4 + 1 + 6 + 12 + 4; the global: 2 + 4 + 1 + 6; its number is last in it
        Due.is("test", Due.entries(x, 0).split("\n")[0], "item 0 t 4 0 2 0 12 0 6 0 1 1 0 0 0 19 23 17 0 13 1 0 1 103");
        Due.is("global", Due.entries(x, 0).split("\n")[1], "item 1 g 0 0 255 255 255 255");
        int at = 64 + 3 + 29 + 9;
        for (int k = at; k < at + 4; k++) {
            Due.is("disk(" + k + ")", x.disk(k), 255);
        }
    }

    /** Promise 21, term 5: "how many bytes of the log are in it, 1 .. 61, in the third one"; "all but the last one have 61". */
    private static void firstBlocks() {
        Keeper x = run(SIXTY);
        Due.is("60", x.about(9), 60);
        block("60", x, 1, 1, 60);
        block("60", x, 2, 0, 0);
        Due.is("one block", x.about(7), 1);
        Keeper y = run(SIXTY_ONE);
        Due.is("61", y.about(9), 61);
        block("61", y, 1, 1, 61);
        block("61", y, 2, 0, 0);
        Due.is("one block", y.about(7), 1);
        Keeper z = run(SIXTY_TWO);
        Due.is("62", z.about(9), 62);
        block("62", z, 1, 1, 61);
        block("62", z, 2, 1, 1);
        Due.is("two blocks", z.about(7), 2);
        // the last byte of a record that touched nothing is 0: how many it touched
        Due.is("the last byte", x.disk(64 + 3 + 59), 0);
        Due.is("the byte behind the log", x.disk(64 + 3 + 60), 0);
        Due.is("the one ahead of the last two", y.disk(64 + 3 + 58), 0);
        Due.is("of the revision", y.disk(64 + 3 + 56), 1);
    }

    /** Promise 21, term 5: "the block in which the log ends (if it has room there) and then further ones are written, each once". */
    private static void behindTheFirst() {
        String[] firsts = {SIXTY, SIXTY_ONE, SIXTY_TWO};
        int[] held = {30, 31, 32};
        int[] written = {2, 1, 1};
        for (int k = 0; k < 3; k++) {
            Keeper x = run(firsts[k]);
            int before = x.about(7);
            Due.reload(x, firsts[k] + "test b{}");
            x.run(1, 1000);
            Due.is("bytes", x.about(9), 60 + k + 31);
            block("the first", x, 1, 1, 61);
            block("the second", x, 2, 1, held[k]);
            block("no third", x, 3, 0, 0);
            Due.is("blocks", x.about(7) - before, written[k]);
            Due.is("the log on the disk", Due.log(x, 0).size(), 60 + k + 31);
            Due.is("b's name", Due.entries(x, 0).split("\n")[3], "record b 0 0 0 0 0 0 2 0 1 0 0");
        }
        // in one run, one behind the other: the block that the first one began is written again
        Keeper y = run("test a{}test b{}test c{}test d{}");
        Due.is("124 bytes", y.about(9), 124);
        block("the third", y, 3, 1, 2);
        Due.is("1 for a, 2 for b, 1 for c, 2 for d", y.about(7), 6);
    }

    /** Promise 21, term 5: a log that ends with its block, twice. */
    private static void exactBlocks() {
        Keeper x = run(SIXTY_ONE + SIXTY_ONE.replace("test a", "test b"));
        Due.is("122", x.about(9), 122);
        block("the first", x, 1, 1, 61);
        block("the second", x, 2, 1, 61);
        block("no third", x, 3, 0, 0);
        Due.is("blocks", x.about(7), 2);
        // a crash reads it again: the whole of it counts, though no block has less than 61
        Due.reload(x, SIXTY_ONE + SIXTY_ONE.replace("test a", "test b") + "test c{}");
        Due.is("a crash ahead of all", x.run(1, 0), 0);
        Due.is("122", x.about(9), 122);
        Due.is("a", x.why(0), 0);
        Due.is("b", x.why(1), 0);
        Due.is("not made anew", x.about(11), 1);
        x.run(1, 1000);
        block("the third", x, 3, 1, 31);
        Due.is("one more", x.about(7), 3);
    }

    /** Two crashes that make the log anew: it comes to half 1, then to half 0 again, with a's record alone. */
    private static Keeper madeAnewTwice(String first) {
        Keeper x = run(first + "test b{check 1+2+3+4+5+6+7==28;}");
        Due.is("behind the first block", x.disk(64 * 2), 1);
        Due.reload(x, first + "test c{check 1+2+3+4+5+6+7==28;}");
        Due.is("a crash in c's entry", x.run(1, 1), 0);
        Due.is("the other half", x.about(10), 1);
        Due.is("a crash in c's entry", x.run(1, 1), 0);
        Due.is("the first half again", x.about(10), 0);
        Due.is("its epoch", x.about(11), 3);
        return x;
    }

    /** Promise 21, term 5: "(the rest of a block that is written is 0)". */
    private static void theRestIsZero() {
        Keeper x = madeAnewTwice("test a{}");
        Due.is("31", x.about(9), 31);
        block("the first", x, 1, 3, 31);
        for (int k = 3 + 31; k < 64; k++) {
            Due.is("the rest of block 1, which was full: " + k, x.disk(64 + k), 0);
        }
        for (int k = 3; k < 64; k++) {
            Due.is("the rest of the head", x.disk(k), 0);
            Due.is("the rest of the other head", x.disk(8192 + k), 0);
        }
        block("an older one stays", x, 2, 1, x.disk(64 * 2 + 2));
        Due.is("the live head", x.disk(0) + 256 * x.disk(1) + 65536 * x.disk(2), 3 + 65536);
        Due.is("the old head", x.disk(8192) + 256 * x.disk(8193) + 65536 * x.disk(8194), 2);
    }

    /** Promise 21, term 5: "The log is that of the blocks up to the first one that has another epoch, or another third byte than 61". */
    private static void otherEpochs() {
        Keeper x = madeAnewTwice(SIXTY_ONE);
        Due.is("61", x.about(9), 61);
        block("the first", x, 1, 3, 61);
        block("an older one behind it", x, 2, 1, x.disk(64 * 2 + 2));
        Due.is("a crash ahead of all", x.run(1, 0), 0);
        Due.is("61 are read", x.about(9), 61);
        Due.is("the same epoch", x.about(11), 3);
        Due.is("a holds", x.why(0), 0);
        Due.is("c has no record", x.why(1), 1);
        Due.is("c is recorded", x.run(1, 1000), 1);
        block("the second", x, 2, 3, 61);
        block("the third", x, 3, 3, x.about(9) - 122);
        Due.is("a crash that isn't one", x.run(1, 0), 0);
        Due.is("both hold", x.about(5), 0);
    }

    /** Promise 21, term 5: "1, its number (from 0 on ..) in two bytes, how many letters its name has, these, and its bytes". */
    private static void itemEntries() {
        Keeper x = run("global abcdefgh:int=-2;array z[32];proc yx(n:int){z[n]=abcdefgh;}test t{yx(31);}");
        Due.is("entries", Due.entries(x, 0), "item 0 t 4 0 2 0 8 0 1 31 0 0 0 10 0 13 1 3 2 121 120\n"
                + "item 1 abcdefgh 0 0 254 255 255 255\nitem 2 z 1 32\n"
                + "item 3 yx 3 1 0 2 1 7 0 4 0 6 0 9 1 12 2 0 8 97 98 99 100 101 102 103 104 1 1 122\n"
                + "record t 0 0 0 0 1 0 1 0 0 0 3 1 0 2 0 3 0\n");
        int[] first = {24, 0, 1, 0, 0, 1, 't', 4};
        for (int k = 0; k < first.length; k++) {
            Due.is("byte " + k, Due.log(x, 0).get(k), first[k]);
        }
        // an entry of more than 255 bytes: "two bytes: how many behind these it has"
        Keeper y = run("test t{let x=1" + "+1".repeat(60) + ";}");
        int size = 6 + 5 + 360 + 2 + 1 + 1;
        Due.is("the low byte", Due.log(y, 0).get(0), (4 + 1 + size) % 256);
        Due.is("the high byte", Due.log(y, 0).get(1), (4 + 1 + size) / 256);
        Due.is("the log", y.about(9), 2 + 4 + 1 + size + 16);
    }

    /** Promise 21, term 5: "a RECORD: 2, how many letters the test's name has, these, the verdict, the number of the item's entry .., ..". */
    private static void recordEntries() {
        Keeper x = run("test t{while(true){}}");
        Due.is("the fuel in two bytes", Due.entries(x, 0).split("\n")[1], "record t 3 0 0 0 184 11 1 0 0 0 0");
        Keeper y = run("proc p(){check true;check false;}proc q(){}test abcdefgh{q();p();}");
        Due.is("where the check stood", Due.entries(y, 0).split("\n")[3], "record abcdefgh 1 1 0 1 2 0 1 0 0 0 2 1 0 2 0");
        // "(0, 0 and 0 if there is none)", also of a test whose entry isn't the first
        Keeper z = run("test s{check false;}test t{check true;let x=1/0;}test u{check true;check false;}");
        String[] lines = Due.entries(z, 0).split("\n");
        Due.is("s", lines[1], "record s 1 0 0 0 0 0 1 0 0 0 0");
        Due.is("t", lines[3], "record t 2 0 0 0 0 0 1 0 1 0 0");
        Due.is("u", lines[5], "record u 1 2 0 1 0 0 1 0 2 0 0");
        // a check's number of more than 127
        Keeper w = run("test t{let b=true;" + "check b;".repeat(160) + "check!b;}");
        Due.is("its number", w.record(0, 1), 160);
        Due.is("on the disk", Due.entries(w, 0).split("\n")[1], "record t 1 0 0 160 0 0 1 0 0 0 0");
        // the revision's number is that of the run
        Keeper v = run("test s{}");
        Due.reload(v, "test s{}test t{}");
        Due.reload(v, "test s{}test t{}test u{}");
        v.run(1, 1000);
        Due.is("t's", Due.entries(v, 0).split("\n")[3], "record t 0 0 0 0 0 0 3 0 1 0 0");
        Due.is("u's", v.record(2, 4), 3);
        Due.is("s's", v.record(0, 4), 1);
    }

    /** Promise 21, term 5: "items that have no entry in the log with the same name and bytes get one, the test's first, then what it touched". */
    private static void noSecondEntry() {
        // p and q have the same bytes, but two names; and g comes back with the bytes that it had
        String text = "global g:int=1;proc p(){}proc q(){}test t{p();q();let x=g;}";
        Keeper x = run(text);
        String first = Due.entries(x, 0);
        Due.is("an entry for each name", first.split("\n").length, 5);
        Due.reload(x, text.replace("int=1", "int=2"));
        x.run(1, 1000);
        Due.reload(x, text);
        int before = x.about(9);
        x.run(1, 1000);
        Due.is("the record alone was put behind", x.about(9) - before, 2 + 13 + 1 + 2 * 3);
        Due.is("entries", Due.entries(x, 0), first + "item 4 g 0 0 2 0 0 0\nrecord t 0 0 0 0 2 0 2 0 0 0 3 4 0 2 0 3 0\n"
                + "record t 0 0 0 0 2 0 3 0 0 0 3 1 0 2 0 3 0\n");
    }

    /** Promise 21: "IndexOutOfBoundsException if it isn't there." */
    private static void refused() {
        Class<IndexOutOfBoundsException> none = IndexOutOfBoundsException.class;
        Keeper x = new Keeper();
        Due.is("the first", x.disk(0), 1);
        Due.is("the last", x.disk(16383), 0);
        int[] others = {-1, 16384, 16385, 65536, Integer.MAX_VALUE, Integer.MIN_VALUE};
        for (int k : others) {
            Due.fails("disk(" + k + ")", none, () -> x.disk(k));
        }
        Keeper y = Due.loaded("test t{}");
        Due.fails("with a revision, too", none, () -> y.disk(16384));
        Due.is("the last", y.disk(16383), 0);
    }
}
