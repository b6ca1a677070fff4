import java.util.ArrayList;
import java.util.List;

/** Promise 22, run: the crash, and what counts behind it, from term 5. */
public final class CrashEdges {
    /** Tests whose item and record have 61 bytes: a block each; and one whose item's entry has 61. */
    private static final String BLOCK_A = "test a{" + Texts.times("let xN=true;", 10) + "}";
    private static final String BLOCK_B = BLOCK_A.replace("test a", "test b");
    private static final String BLOCK_C = BLOCK_A.replace("test a", "test c");
    private static final String ITEM_BLOCK = "test testabc{let a=1;let b=2;let c=3;let d=4;let e=a;let f=e;let g=f;}";

    public static void main(String[] args) {
        noBlocks();
        exactlyEnough();
        afterEachBlock();
        wholeEntriesStay();
        brokenEntries();
        withAllRecords();
        byNumbers();
        otherRevisionsTests();
        recordsThatWent();
        epochs();
        whatTheDiskTells();
        Due.done("CrashEdges");
    }

    /** Promise 22: "at most so many blocks are written, then it crashes": none at all. */
    private static void noBlocks() {
        Keeper x = Due.loaded("test a{}test b{}");
        Due.is("none", x.run(1, 0), 0);
        Due.is("no block", x.about(7), 0);
        Due.is("an empty log", x.about(9), 0);
        Due.is("the same half", x.about(10), 0);
        Due.is("the same epoch", x.about(11), 1);
        Due.is("both are picked", x.about(5), 2);
        Due.is("slots", x.slot(1, 4), 0);
        Due.is("none was recorded", x.about(8), 0);
        x.run(1, 1000);
        Due.is("with nothing picked there is no crash", x.run(1, 0), 0);
        Due.is("62", x.about(9), 62);
        Due.is("none is picked", x.about(5), 0);
    }

    /** Promise 22: "how many runs were recorded (wholly on the disk)": with exactly the blocks that they need, and one less. */
    private static void exactlyEnough() {
        String text = BLOCK_A + BLOCK_B + BLOCK_C;
        int[] recorded = {0, 1, 2, 3, 3};
        for (int most = 0; most < recorded.length; most++) {
            Keeper x = Due.loaded(text);
            Due.is("recorded with " + most, x.run(1, most), recorded[most]);
            Due.is("blocks with " + most, x.about(7), recorded[most]);
            Due.is("the log with " + most, x.about(9), 61 * recorded[most]);
            Due.is("the half with " + most, x.about(10), 0);
            Due.is("the epoch with " + most, x.about(11), 1);
            Due.is("recorded since the beginning", x.about(6), recorded[most]);
            Due.is("picked with " + most, x.about(5), 3 - recorded[most]);
            for (int test = 0; test < 3; test++) {
                Due.is("slot " + test + " with " + most, x.slot(test, 4), test < recorded[most] ? 1 : 0);
                Due.is("why " + test + " with " + most, x.why(test), test < recorded[most] ? 0 : 1);
            }
            Due.is("the last that was recorded ended", x.about(8), recorded[most]);
            Due.is("the rest then", x.run(1, 3 - recorded[most]), 3 - recorded[most]);
            Due.is("all of it", x.about(9), 183);
        }
    }

    /** Promise 22, term 5: "A CRASH leaves what was written; the live half's log is read then, and that counts". */
    private static void afterEachBlock() {
        // a: blocks 1; b: blocks 1 and 2; c: block 2; d: blocks 2 and 3
        String text = "test a{}test b{}test c{}test d{}";
        int[] recorded = {0, 1, 1, 2, 3, 3, 4};
        boolean[] broken = {false, false, true, false, false, true, false};
        for (int most = 0; most < recorded.length; most++) {
            Keeper x = Due.loaded(text);
            Due.is("recorded with " + most, x.run(1, most), recorded[most]);
            int kept = 31 * recorded[most];
            Due.is("the log with " + most, x.about(9), kept);
            Due.is("the half with " + most, x.about(10), broken[most] ? 1 : 0);
            Due.is("the epoch with " + most, x.about(11), broken[most] ? 2 : 1);
            // made anew: the blocks of what is kept, the head, the old head; "whatever run() was told"
            Due.is("blocks with " + most, x.about(7), most + (broken[most] ? (kept + 60) / 61 + 2 : 0));
            Due.is("the old head with " + most, x.disk(2), broken[most] ? 0 : 1);
            Due.is("the other head with " + most, x.disk(8194), broken[most] ? 1 : 0);
            Due.is("the disk has it with " + most, Due.log(x, x.about(10)).size(), kept);
            Due.is("the rest with " + most, x.run(1, 1000), 4 - recorded[most]);
            Due.is("none is picked", x.about(5), 0);
        }
    }

    /** Promise 22, term 5: an item's entry that is whole stays, though its record isn't there. */
    private static void wholeEntriesStay() {
        Keeper x = Due.loaded(ITEM_BLOCK);
        Due.is("a block", x.run(1, 1), 0);
        Due.is("the item's entry", x.about(9), 61);
        Due.is("not made anew", x.about(11), 1);
        Due.is("no more blocks", x.about(7), 1);
        Due.is("no record", x.why(0), 1);
        Due.is("another crash leaves it", x.run(1, 0), 0);
        Due.is("one more block", x.run(1, 1), 1);
        Due.is("the record alone", x.about(9), 61 + 22);
        Due.is("its item's entry", Due.entries(x, 0).split("\n")[1], "record testabc 0 0 0 0 0 0 1 0 0 0 0");
    }

    /** Promise 22, term 5: "(A log ends ahead of an entry that isn't whole.)", wherever that is cut. */
    private static void brokenEntries() {
        // behind a's 31 bytes b's entry is cut at 61: after 30 bytes of it; with longer ones ahead after fewer
        for (int trues = 0; trues <= 10; trues++) {
            String first = "test a{" + Texts.times("let xN=true;", trues) + "}";
            Keeper x = Due.loaded(first);
            Due.is("a", x.run(1, 1), 1);
            int size = 31 + 3 * trues;
            Due.is("its bytes", x.about(9), size);
            Due.reload(x, first + "test b{let x=1+2+3+4+5+6+7+8+9;}");
            Due.is("b", x.run(1, 1), 0);
            Due.is("a's bytes", x.about(9), size);
            Due.is("a holds", x.why(0), 0);
            Due.is("b has no record", x.why(1), 1);
            Due.is("made anew", x.about(11), 2);
            Due.is("blocks", x.about(7), 2 + 1 + 2);
        }
        // cut behind the first of the two bytes that tell how many there are
        Keeper y = Due.loaded("test a{let p=1;let q=1;" + Texts.times("let xN=true;", 5) + "}");
        Due.is("a", y.run(1, 1), 1);
        Due.is("60 bytes", y.about(9), 60);
        Due.reload(y, "test a{let p=1;let q=1;" + Texts.times("let xN=true;", 5) + "}test b{}");
        Due.is("one byte of b's", y.run(1, 1), 0);
        Due.is("60 bytes", y.about(9), 60);
        Due.is("made anew", y.about(10), 1);
        // a record that is cut, with its item's entry whole ahead of it
        Keeper z = Due.loaded(ITEM_BLOCK.replace("test testabc", "test testab"));
        Due.is("60 bytes of an item, one of its record", z.run(1, 1), 0);
        Due.is("nothing is kept", z.about(9), 0);
        Due.is("made anew", z.about(10), 1);
        Due.is("a block, and two heads", z.about(7), 3);
        Due.is("no block of its log", z.disk(8192 + 64), 0);
    }

    /** Promise 22, term 5: "it is made anew (with the records of all tests of the revision ..)", "(also one that doesn't hold)". */
    private static void withAllRecords() {
        Keeper x = Due.loaded("global g:int=1;proc p(){check g<5;}test a{p();}test b{check g==1;}test c{}");
        x.run(1, 1000);
        // a and b don't hold, c does, d is new; d's estimate is the greatest, so it is recorded first
        Due.reload(x, "global g:int=2;proc p(){check g<5;}test a{p();}test b{check g==1;check true;}test c{}"
                + "test d{check 1+2+3+4+5+6+7+8+9==45;}");
        Due.is("d", x.run(2, 1), 0);
        Due.is("made anew", x.about(11), 2);
        Due.is("a doesn't hold", x.why(0), 3);
        Due.is("b has other bytes", x.why(1), 2);
        Due.is("c holds", x.why(2), 0);
        Due.is("d has none", x.why(3), 1);
        String[] lines = Due.entries(x, 1).split("\n");
        Due.is("how many", lines.length, 8);
        String[] begins = {"item 0 a ", "item 1 g 0 0 1 0 0 0", "item 2 p ", "record a 0 0 0 0 1 0 1 0 0 0 2 1 0 2 0", "item 3 b ",
            "record b 0 0 0 0 0 0 1 0 3 0 1 1 0", "item 4 c ", "record c 0 0 0 0 0 0 1 0 4 0 0"};
        for (int k = 0; k < begins.length; k++) {
            Due.is(lines[k], lines[k].startsWith(begins[k]), true);
        }
        Due.is("the fuel is the estimate still", x.record(0, 2), 1);
    }

    /** Promise 22, term 5: ".. by their numbers: the items that it needs that have no entry there yet, and the record .. with the same contents". */
    private static void byNumbers() {
        Keeper x = Due.loaded("proc p(){check true;check false;}proc q(){}test a{q();p();}test b{p();q();}");
        x.run(1, 1000);
        // numbers of another order than entries had; routines, too, but the record's order stays
        Due.reload(x, "test b{p();q();}proc q(){}test z{check 1+2+3+4+5+6+7+8+9==45;}test a{q();p();}proc p(){check true;check false;}");
        Due.is("z", x.run(1, 1), 0);
        String p = "3 0 2 0 7 0 2 17 0 3 17 1 12 0";
        String q = "3 0 2 0 1 0 12 0";
        Due.is("entries", Due.entries(x, 1), "item 0 b 4 0 2 0 5 0 10 0 10 1 13 2 3 1 112 3 1 113\nitem 1 p " + p
                + "\nrecord b 1 1 0 1 1 0 1 0 0 0 1 1 0\nitem 2 a 4 0 2 0 5 0 10 0 10 1 13 2 3 1 113 3 1 112\nitem 3 q " + q
                + "\nrecord a 1 1 0 1 2 0 1 0 2 0 2 1 0 3 0\n");
        Due.is("a holds", x.why(2), 0);
        Due.is("b holds", x.why(0), 0);
        Due.is("a's check", x.record(2, 1), 1);
        Due.is("stood in p", x.touched(2, 3, 1), true);
    }

    /** Promise 22, term 4: records "of tests that it hasn't stay, as long as the log isn't made anew". */
    private static void otherRevisionsTests() {
        Keeper x = Due.loaded("test a{}test b{}");
        x.run(1, 1000);
        Due.reload(x, "test c{}");
        Due.is("a crash that breaks nothing", x.run(1, 0), 0);
        Due.is("62 bytes", x.about(9), 62);
        Due.reload(x, "test a{}test b{}");
        Due.is("both hold", x.about(5), 0);
        Due.reload(x, "test b{}test c{check 1+2+3+4+5+6+7+8+9==45;}");
        Due.is("a crash that breaks c's entry", x.run(1, 1), 0);
        Due.is("b's alone", x.about(9), 31);
        Due.reload(x, "test a{}test b{}");
        Due.is("a's went", x.why(0), 1);
        Due.is("b's is there", x.why(1), 0);
        Due.is("it was recorded, too", x.about(6), 2);
    }

    /** Promise 22, term 4: a record that went doesn't come back when its half is live again. */
    private static void recordsThatWent() {
        Keeper x = Due.loaded("test a{}test b{}");
        x.run(1, 1000);
        Due.reload(x, "test b{}test c{check 1+2+3+4+5+6+7+8+9==45;}");
        Due.is("the second half", x.run(1, 1), 0);
        Due.is("the first half again", x.run(1, 1), 0);
        Due.is("its epoch", x.about(11), 3);
        Due.is("its half", x.about(10), 0);
        Due.reload(x, "test a{}test b{}test c{}");
        Due.is("a's went", x.why(0), 1);
        Due.is("b's is there", x.why(1), 0);
        Due.is("c never had one", x.why(2), 1);
        Due.is("both are recorded", x.run(1, 1000), 2);
        Due.is("entries", Due.entries(x, 0), "item 0 b 4 0 2 0 1 0 13 0\nrecord b 0 0 0 0 0 0 1 0 0 0 0\n"
                + "item 1 a 4 0 2 0 1 0 13 0\nrecord a 0 0 0 0 0 0 3 0 1 0 0\n"
                + "item 2 c 4 0 2 0 1 0 13 0\nrecord c 0 0 0 0 0 0 3 0 2 0 0\n");
    }

    /** Promise 22, term 5: "with an epoch of one more ..", "its EPOCH in two bytes", the halves by turns. */
    private static void epochs() {
        Keeper x = Due.loaded("test b{check 1+2+3+4+5+6+7+8+9==45;}");
        for (int epoch = 2; epoch <= 300; epoch++) {
            Due.is("a crash", x.run(1, 1), 0);
            if (epoch < 5 || epoch > 253) {
                Due.is("epoch", x.about(11), epoch);
                Due.is("half", x.about(10), (epoch + 1) % 2);
                int head = 8192 * ((epoch + 1) % 2);
                Due.is("lowest first", x.disk(head), epoch % 256);
                Due.is("then the other byte", x.disk(head + 1), epoch / 256);
                Due.is("it counts", x.disk(head + 2), 1);
                Due.is("the other one doesn't", x.disk(8192 - head + 2), 0);
                Due.is("with its epoch", x.disk(8192 - head), (epoch - 1) % 256);
                Due.is("with its epoch", x.disk(8192 - head + 1), (epoch - 1) / 256);
                Due.is("the block that the crash left", x.disk(8192 - head + 64), (epoch - 1) % 256);
            }
        }
        Due.is("three blocks each", x.about(7), 3 * 299);
        Due.is("run", x.run(1, 1000), 1);
        int half = 8192 * x.about(10);
        Due.is("the epoch of a block", x.disk(half + 64) + 256 * x.disk(half + 65), 300);
        Due.is("a crash ahead of all", x.run(1, 0), 0);
        Due.is("it holds", x.why(0), 0);
    }

    /** A record as the disk has it: revision, verdict, check, fuel, how many it touched. */
    private static List<int[]> records(Keeper x, String name) {
        List<int[]> found = new ArrayList<>();
        for (String line : Due.entries(x, x.about(10)).split("\n")) {
            String[] parts = line.split(" ");
            if (parts[0].equals("record") && parts[1].equals(name)) {
                int[] record = new int[5];
                record[0] = Integer.parseInt(parts[8]);
                record[1] = Integer.parseInt(parts[2]);
                record[2] = record[1] == 1 ? Integer.parseInt(parts[5]) : SuiteKeeper.NONE;
                record[3] = Integer.parseInt(parts[6]) + 256 * Integer.parseInt(parts[7]);
                record[4] = Integer.parseInt(parts[12]);
                found.add(record);
            }
        }
        return found;
    }

    /** Promise 22, term 5: after any number of blocks records are those that the disk has. */
    private static void whatTheDiskTells() {
        String first = "global g:int=1;array b[2];func f(n:int):int{b[n]=g;return n+g;}test r{check f(0)==1;}test s{check f(1)==3;}"
                + "test t{check f(2)==3;}test u{let i=0;while(i<300){i=i+1;}}";
        String second = first.replace("int=1", "int=2").replace("i<300", "i<301");
        for (int most = 0; most <= 12; most++) {
            Keeper x = Due.loaded(first);
            Due.is("the first revision", x.run(2, 1000), 4);
            Due.reload(x, second);
            Due.is("all are picked", x.about(5), 4);
            int recorded = x.run(3, most);
            Due.is("whole", Due.entries(x, x.about(10)).contains("broken"), false);
            int ofSecond = 0;
            for (int test = 0; test < 4; test++) {
                List<int[]> found = records(x, String.valueOf((char) ('r' + test)));
                int[] last = found.get(found.size() - 1);
                ofSecond += last[0] == 2 ? 1 : 0;
                int[] whats = {4, 0, 1, 2, 3};
                for (int k = 0; k < 5; k++) {
                    Due.is("record(" + test + ", " + whats[k] + ") with " + most, x.record(test, whats[k]), last[k]);
                }
                Due.is("it holds if it is of the second", x.why(test) == 0, last[0] == 2);
            }
            Due.is("as many as were told", ofSecond, recorded);
            Due.is("the head counts", x.disk(8192 * x.about(10) + 2), 1);
            Due.is("its epoch", x.disk(8192 * x.about(10)), x.about(11));
        }
    }
}
