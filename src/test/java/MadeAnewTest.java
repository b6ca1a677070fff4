/**
 * Promise 22, and 21: a log without room is made anew in the other half, and crashes in between.
 *
 * <p>Four signs a call make at most some 14 bytes of the log, so that 512 calls can't fill its 7747:
 * these objects get more calls than the document speaks of, as there is no other way to come there.
 */
public final class MadeAnewTest {
    public static void main(String[] args) {
        made();
        crashes();
        staleBlocks();
        bothHeadsCount();
        exactlyFull();
        noRoomAtAll();
        laterRunsFit();
        goneTests();
        wrapBetweenHeads();
        Due.done("MadeAnewTest");
    }

    /** A test with some 3 * n bytes, another one for each first number. */
    private static String big(String name, int first, int n) {
        StringBuilder text = new StringBuilder("test " + name + "{check 0<" + first);
        for (int k = 0; k < n; k++) {
            text.append("+1");
        }
        return text.append(";}").toString();
    }

    private static int size(Keeper x, int test) {
        return Due.bytes(x, 3, test).split(" ").length;
    }

    /** Three times some 2036 bytes, and those of the small tests, have room; a fourth time hasn't. */
    private static Keeper filled() {
        Keeper x = Keeper.beyond();
        fill(x);
        Due.is("the first half", x.about(10), 0);
        return x;
    }

    private static void fill(Keeper x) {
        Due.reload(x, tests(1));
        Due.is("bytes", size(x, 1), 6 + 15 + 6 * 332);
        x.run(1, 1000);
        for (int first = 2; first <= 3; first++) {
            Due.reload(x, tests(first));
            Due.is("one more", x.run(1, 1000), 1);
        }
        Due.is("bytes of the log", x.about(9), 31 + 3 * (2 + 4 + 1 + 2013 + 16) + (7 + 21 + 16));
    }

    private static String tests(int first) {
        return "test a{}" + big("b", first, 332) + "test c{check 1==2;}";
    }

    /** Promise 22, term 5: "If there is no room for it in the half's 127 blocks, the log is first MADE ANEW in the other half". */
    private static void made() {
        Keeper x = filled();
        int written = x.about(7);
        Due.reload(x, tests(4));
        Due.is("one is picked", x.about(5), 1);
        Due.is("run", x.run(1, 1000), 1);
        Due.is("the other half", x.about(10), 1);
        Due.is("its epoch", x.about(11), 2);
        Due.is("bytes of the log", x.about(9), 31 + 44 + 2036);
        // 75 bytes in two blocks, two heads, then from the second block on
        Due.is("blocks", x.about(7) - written, 4 + 34);
        Due.is("the old head", x.disk(2), 0);
        Due.is("the old head's epoch", x.disk(0), 1);
        Due.is("the head", x.disk(8192) + 256 * x.disk(8193) + 65536 * x.disk(8194), 65538);
        String[] lines = Due.entries(x, 1).split("\n");
        Due.is("a", lines[0], "item 0 a 4 0 2 0 1 0 13 0");
        Due.is("a", lines[1], "record a 0 0 0 0 0 0 1 0 0 0 0");
        Due.is("c", lines[2].startsWith("item 1 c 4 0 2 0 14 0 1 1 0 0 0 1 2 0 0 0 23 17 0 13 0"), true);
        Due.is("c's check stood in entry 1", lines[3], "record c 1 1 0 0 0 0 1 0 1 0 0");
        Due.is("b", lines[4].startsWith("item 2 b 4 "), true);
        Due.is("b", lines[5], "record b 0 0 0 0 0 0 4 0 2 0 0");
        Due.is("all hold", x.about(5), 0);
        Due.is("recorded since the beginning", x.about(6), 6);
    }

    /** Promise 22, term 5: "blocks are written from 1 on, each once, then the head; then the old head", and a crash after each. */
    private static void crashes() {
        for (int most = 0; most <= 38; most++) {
            Keeper x = filled();
            Due.reload(x, tests(9));
            int written = x.about(7);
            Due.is("recorded with " + most, x.run(1, most), most < 38 ? 0 : 1);
            Due.is("a holds", x.verdict(0), 0);
            Due.is("c holds", x.verdict(2), 1);
            boolean old = most < 3;
            // the old half, made anew without b, or made anew behind a broken entry of the new one
            Due.is("half with " + most, x.about(10), old || (most > 4 && most < 38) ? 0 : 1);
            Due.is("b's record with " + most, x.why(1), old ? 2 : most < 38 ? 1 : 0);
            Due.is("epoch with " + most, x.about(11), old ? 1 : most > 4 && most < 38 ? 3 : 2);
            Due.is("the log with " + most, x.about(9), old ? 6183 : most < 38 ? 75 : 75 + 2036);
            Due.is("blocks with " + most, x.about(7) - written, most + (most > 4 && most < 38 ? 4 : 0));
            Due.is("the head that didn't come to 0", x.disk(2), old || most == 3 || (most > 4 && most < 38) ? 1 : 0);
            Due.is("then", x.run(1, 1000), most < 38 ? 1 : 0);
            Due.is("b holds", x.verdict(1), 0);
            // what a crash left in the other half's first block is told by its epoch
            Due.is("epoch then", x.about(11), most == 0 ? 2 : old ? 3 : most > 4 && most < 38 ? 3 : 2);
        }
    }

    /** Promise 22, term 5: "up to the first one that has another epoch": the half has older blocks behind its log. */
    private static void staleBlocks() {
        for (int most = 0; most <= 34; most++) {
            Keeper x = filled();
            for (int first = 4; first <= 7; first++) {
                Due.reload(x, tests(first));
                x.run(1, 1000);
            }
            Due.is("the first half again", x.about(10), 0);
            Due.is("epoch", x.about(11), 3);
            Due.is("the log", x.about(9), 75 + 2036);
            Due.is("a block behind it", x.disk(64 * 60), 1);
            Due.is("the last block has 2111 % 61", x.disk(64 * 35 + 2), 37);
            for (int k = 3 + 37; k < 64; k++) {
                Due.is("the rest of it", x.disk(64 * 35 + k), 0);
            }
            for (int k = 3; k < 64; k++) {
                Due.is("the rest of the heads", x.disk(k) + x.disk(8192 + k), 0);
            }
            Due.is("the block behind is an older one", x.disk(64 * 36), 1);
            Due.reload(x, tests(8));
            int written = x.about(7);
            Due.is("recorded with " + most, x.run(1, most), most < 34 ? 0 : 1);
            boolean anew = most > 0 && most < 34;
            Due.is("half with " + most, x.about(10), anew ? 1 : 0);
            Due.is("epoch with " + most, x.about(11), anew ? 4 : 3);
            Due.is("the log with " + most, x.about(9), most == 34 ? 75 + 2 * 2036 : 75 + 2036);
            Due.is("on the disk with " + most, Due.log(x, x.about(10)).size(), x.about(9));
            Due.is("b's record with " + most, x.why(1), most == 34 ? 0 : 2);
            Due.is("b's revision with " + most, x.record(1, 4), most == 34 ? 8 : 7);
            Due.is("a holds", x.verdict(0), 0);
            Due.is("c holds", x.verdict(2), 1);
            Due.is("blocks with " + most, x.about(7) - written, most + (anew ? 37 : 0));
        }
    }

    /** Promise 22, term 5: "The half whose head counts with the greater epoch is the LIVE one", by a crash between the two heads. */
    private static void bothHeadsCount() {
        Keeper x = filled();
        for (int first = 4; first <= 6; first++) {
            Due.reload(x, tests(first));
            x.run(1, 1000);
        }
        Due.is("the second half", x.about(10), 1);
        Due.reload(x, tests(7));
        Due.is("two blocks and a head", x.run(1, 3), 0);
        Due.is("the second head counts", x.disk(8192 + 2), 1);
        Due.is("so does the first", x.disk(2), 1);
        Due.is("the greater epoch", x.about(11), 3);
        Due.is("is in the first half", x.about(10), 0);
        Due.is("b has no record", x.why(1), 1);
        Due.is("a has", x.why(0), 0);
    }

    /** Promise 22, term 5: "the half's 127 blocks": 7747 bytes have room, a byte more hasn't. */
    private static void exactlyFull() {
        Keeper x = Due.loadedBeyond("test a{}" + big("b", 1, 421));
        x.run(1, 1000);
        Due.reload(x, "test a{}" + big("b", 2, 421));
        x.run(1, 1000);
        Due.reload(x, "test a{}" + big("b", 3, 422));
        Due.is("run", x.run(1, 1000), 1);
        Due.is("full", x.about(9), 7747);
        Due.is("the first half", x.about(10), 0);
        Due.is("the last block", x.disk(127 * 64 + 2), 61);
        Due.is("not the next half", x.disk(8192), 0);
        Due.reload(x, "test a{}" + big("b", 4, 422));
        Due.is("a crash ahead of all", x.run(1, 0), 0);
        Due.is("full, as the disk has it", x.about(9), 7747);
        Due.is("b's record", x.record(1, 4), 3);
        Due.is("one byte more makes it anew", x.run(1, 1000), 1);
        Due.is("the second half", x.about(10), 1);
        Keeper y = Due.loadedBeyond("test a{let x=true;}" + big("b", 1, 421));
        y.run(1, 1000);
        Due.reload(y, "test a{let x=true;}" + big("bb", 1, 421));
        y.run(1, 1000);
        int log = y.about(9);
        Due.is("the first half", y.about(10), 0);
        Due.reload(y, "test a{let x=true;}" + big("bc", 1, 421));
        Due.is("one byte too many", log + 7 + 1 + size(y, 1) + 17, 7748);
        Due.is("run", y.run(1, 1000), 1);
        Due.is("made anew", y.about(10), 1);
    }

    /** Promise 22, term 5: "If then there is still no room the run is not recorded (.. runs that end later may still be)". */
    private static void noRoomAtAll() {
        Keeper x = Due.loadedBeyond(big("a", 1, 700));
        x.run(1, 1000);
        Due.is("bytes of the log", x.about(9), 6 + 15 + 6 * 700 + 7 + 16);
        StringBuilder sum = new StringBuilder();
        for (int k = 0; k < 700; k++) {
            sum.append("+0");
        }
        String text = "test a{check f()==1;}test b{check f()==1;}func f():int{return 1" + sum + ";}";
        Due.reload(x, text);
        // b has the greater estimate; with a's old record beside it f has no room; then a goes without that
        Due.is("a alone", x.run(1, 1000), 1);
        Due.is("b went first", x.slot(0, 0), 1);
        Due.is("b isn't recorded", x.slot(0, 4), 0);
        Due.is("b has no record", x.why(1), 1);
        Due.is("a is recorded", x.slot(1, 4), 1);
        Due.is("a", x.verdict(0), 0);
        Due.is("twice made anew", x.about(11), 3);
        Due.is("bytes of the log", x.about(9), 28 + 7 + 4219 + 18);
        Due.is("when a ended", x.about(8), 4);
        Due.is("b has room now", x.run(1, 1000), 1);
        Due.is("f has its entry", x.about(9), 28 + 7 + 4219 + 18 + 28 + 18);
        recordThatWent(x, text);
    }

    /** Promise 22, term 5: "(its test has no record then ..)": a's run has no room beside b's; b's has, as a has none. */
    private static void recordThatWent(Keeper x, String text) {
        Due.reload(x, text.replace("return 1", "return 2"));
        Due.is("both are picked", x.about(5), 2);
        Due.is("b alone", x.run(1, 1000), 1);
        Due.is("a isn't recorded", x.slot(0, 4), 0);
        Due.is("b is recorded", x.slot(1, 4), 1);
        Due.is("a has no record", x.why(0), 1);
        Due.is("b", x.verdict(1), 1);
        Due.is("twice made anew", x.about(11), 5);
        Due.is("when b ended", x.about(8), 4);
        Due.is("when the last one ended", x.about(13), 4);
        Due.is("a has room then", x.run(1, 1000), 1);
        Due.is("not made anew", x.about(11), 5);
        Due.is("recorded since the beginning", x.about(6), 5);
    }

    /** Promise 22, term 5: ".. runs that end later may still be", and what had no room leaves nothing in the log. */
    private static void laterRunsFit() {
        Keeper x = Due.loadedBeyond(big("a", 1, 700));
        x.run(1, 1000);
        // a's old record has 4244 bytes; b's run needs 4 * 1000 and ends first; the new one of a is small
        Due.reload(x, "test a{}" + big("b", 1, 650) + "test c{}");
        Due.is("c and a", x.run(1, 1000), 2);
        Due.is("b went first", x.slot(0, 0), 1);
        Due.is("b isn't recorded", x.slot(0, 4), 0);
        Due.is("b has no record", x.why(1), 1);
        Due.is("c is behind what was made anew", x.verdict(2), 0);
        Due.is("so is a", x.verdict(0), 0);
        Due.is("once made anew", x.about(11), 2);
        Due.is("bytes of the log", x.about(9), 6 + 15 + 6 * 700 + 7 + 16 + 31 + 31);
        Due.is("on the disk", Due.log(x, 1).size(), x.about(9));
        String[] lines = Due.entries(x, 1).split("\n");
        Due.is("a's old item", lines[0].startsWith("item 0 a 4 "), true);
        Due.is("c's record", lines[3], "record c 0 0 0 0 0 0 2 0 1 0 0");
        Due.is("a's item", lines[4], "item 2 a 4 0 2 0 1 0 13 0");
        Due.is("a's record", lines[5], "record a 0 0 0 0 0 0 2 0 2 0 0");
        Due.is("b has room when a's old record is gone", x.run(1, 1000), 1);
        Due.is("made anew for it", x.about(11), 3);
    }

    /** Promise 22, term 5: "(65535 being followed by 1)", and then the greater epoch is that of the old half. */
    private static void wrapBetweenHeads() {
        Keeper x = Keeper.beyond();
        Due.reload(x, big("z", 1, 40));
        for (int epoch = 2; epoch <= 65535; epoch++) {
            x.run(1, 1);
        }
        Due.is("the last epoch", x.about(11), 65535);
        fill(x);
        int half = x.about(10);
        Due.reload(x, tests(4));
        Due.is("two blocks and a head", x.run(1, 3), 0);
        Due.is("the other head counts", x.disk(8192 * (1 - half) + 2), 1);
        Due.is("with epoch 1", x.disk(8192 * (1 - half)) + 256 * x.disk(8192 * (1 - half) + 1), 1);
        Due.is("the old one counts, too", x.disk(8192 * half + 2), 1);
        Due.is("and has the greater epoch", x.about(11), 65535);
        Due.is("so it is live", x.about(10), half);
        Due.is("with b's old record", x.why(1), 2);
        Due.is("then", x.run(1, 1000), 1);
        Due.is("1 again", x.about(11), 1);
        Due.is("the other half", x.about(10), 1 - half);
        Due.is("b holds", x.verdict(1), 0);
    }

    /** Promise 22, term 4: "(Records of tests that it hasn't stay, as long as the log isn't made anew.)" */
    private static void goneTests() {
        Keeper x = filled();
        Due.reload(x, big("b", 4, 300));
        x.run(1, 1000);
        Due.is("made anew", x.about(10), 1);
        Due.reload(x, "test a{}test c{check 1==2;}");
        Due.is("a went", x.why(0), 1);
        Due.is("c went", x.why(1), 1);
        for (int first = 5; first <= 8; first++) {
            Due.reload(x, big("b", first, 400));
            x.run(1, 1000);
        }
        Due.is("in the first half again", x.about(10), 0);
        Due.reload(x, "test a{}test c{check 1==2;}");
        Due.is("a isn't there", x.why(0), 1);
        Due.is("c isn't there", x.why(1), 1);
        Keeper y = filled();
        Due.reload(y, "test other{}");
        y.run(1, 1000);
        Due.is("not made anew", y.about(10), 0);
        Due.reload(y, "test a{}test c{check 1==2;}");
        Due.is("a stayed", y.why(0), 0);
        Due.is("c stayed", y.why(1), 0);
    }
}
