/** Promise 21: disk, and what a recorded run leaves there. */
public final class DiskTest {
    public static void main(String[] args) {
        wrongInputs();
        firstRecord();
        entries();
        longNames();
        sharedEntries();
        blocks();
        Due.done("DiskTest");
    }

    private static void wrongInputs() {
        Keeper x = new Keeper();
        Class<IndexOutOfBoundsException> none = IndexOutOfBoundsException.class;
        Due.fails("-1", none, () -> x.disk(-1));
        Due.fails("16384", none, () -> x.disk(16384));
        Due.fails("least", none, () -> x.disk(Integer.MIN_VALUE));
        Due.fails("greatest", none, () -> x.disk(Integer.MAX_VALUE));
        Due.is("the last byte", x.disk(16383), 0);
    }

    private static void firstRecord() {
        Keeper x = Due.loaded("test ab{}");
        x.run(1, 1000);
        int[] want = {1, 0, 33, 14, 0, 1, 0, 0, 2, 'a', 'b', 4, 0, 2, 0, 1, 0, 13, 0,
            15, 0, 2, 2, 'a', 'b', 0, 0, 0, 0, 0, 0, 1, 0, 0, 0, 0};
        for (int k = 0; k < 16384; k++) {
            int due = k == 0 || k == 2 ? 1 : k >= 64 && k < 64 + want.length ? want[k - 64] : 0;
            Due.is("disk(" + k + ")", x.disk(k), due);
        }
    }

    /** Bytes above 127, each field of a record, and the order of what was touched. */
    private static void entries() {
        Keeper x = Due.loaded("func z():int{return a[0];}global h:int=-1;array a[9];global g:int=300;"
                + "proc y(n:int){check true;check n==h;}test t{y(z()+g);}");
        x.run(1, 1000);
        String y = "3 1 0 2 1 11 0 2 17 0 4 0 6 0 23 17 1 12 1 0 1 104";
        String z = "2 0 0 0 14 0 1 0 0 0 0 8 0 11 1 0 0 0 0 11 1 1 1 97";
        String t = "4 0 2 0 8 0 10 0 6 1 27 10 2 13 3 2 1 122 0 1 103 3 1 121";
        Due.is("y", Due.bytes(x, 2, 1), y);
        Due.is("z", Due.bytes(x, 2, 0), z);
        Due.is("t", Due.bytes(x, 3, 0), t);
        Due.is("entries", Due.entries(x, 0), "item 0 t " + t + "\nitem 1 h 0 0 255 255 255 255\n"
                + "item 2 g 0 0 44 1 0 0\nitem 3 a 1 9\nitem 4 z " + z + "\nitem 5 y " + y
                + "\nrecord t 1 5 0 1 2 0 1 0 0 0 5 1 0 2 0 3 0 4 0 5 0\n");
    }

    private static void longNames() {
        Keeper x = Due.loaded("proc abcdefgh(){}test zyxwvuts{abcdefgh();}");
        x.run(1, 1000);
        Due.is("entries", Due.entries(x, 0), "item 0 zyxwvuts 4 0 2 0 3 0 10 0 13 1 3 8 97 98 99 100 101 102 103 104\n"
                + "item 1 abcdefgh 3 0 2 0 1 0 12 0\nrecord zyxwvuts 0 0 0 0 1 0 1 0 0 0 1 1 0\n");
    }

    private static void sharedEntries() {
        Keeper x = Due.loaded("global g:int=1;test t{check g==1;}test u{check g==2;}");
        x.run(1, 1000);
        String t = "4 0 2 0 11 0 6 0 1 1 0 0 0 23 17 0 13 1 0 1 103";
        String u = t.replace("1 1 0 0 0", "1 2 0 0 0");
        String first = "item 0 t " + t + "\nitem 1 g 0 0 1 0 0 0\nrecord t 0 0 0 0 0 0 1 0 0 0 1 1 0\n"
                + "item 2 u " + u + "\nrecord u 1 2 0 0 0 0 1 0 2 0 1 1 0\n";
        Due.is("g has one entry", Due.entries(x, 0), first);
        Due.reload(x, "global g:int=2;test t{check g==1;}test u{check g==2;}");
        x.run(2, 1000);
        String second = first + "item 3 g 0 0 2 0 0 0\nrecord t 1 0 0 0 0 0 2 0 0 0 1 3 0\nrecord u 0 0 0 0 0 0 2 0 2 0 1 3 0\n";
        Due.is("another g", Due.entries(x, 0), second);
        Due.reload(x, "test u{check g==2;}global g:int=1;test t{check g==1;}");
        x.run(1, 1000);
        Due.is("all items have entries", Due.entries(x, 0),
                second + "record u 1 2 0 0 0 0 3 0 2 0 1 1 0\nrecord t 0 0 0 0 0 0 3 0 0 0 1 1 0\n");
    }

    /** The block in which the log ends is written again; all but the last one have 61. */
    private static void blocks() {
        Keeper x = Due.loaded("test a{}test b{}test c{}test d{}");
        x.run(1, 1);
        Due.is("31 bytes", x.disk(64 + 2), 31);
        Due.is("no second block", x.disk(128 + 2), 0);
        x.run(1, 2);
        Due.is("61 bytes", x.disk(64 + 2), 61);
        Due.is("one byte", x.disk(128 + 2), 1);
        Due.is("62 bytes in all", x.about(9), 62);
        x.run(1, 2);
        Due.is("93 bytes, then the next one has no block left", x.about(9), 93);
        Due.is("what the crash left is made anew in the other half", x.about(10), 1);
        Due.is("the epoch in the head", x.disk(8192), 2);
        Due.is("it counts", x.disk(8192 + 2), 1);
        Due.is("the epoch in a block", x.disk(8192 + 64), 2);
        Due.is("the old head doesn't count", x.disk(2), 0);
        Due.is("its epoch stays", x.disk(0), 1);
        Due.is("bytes of the second block", x.disk(8192 + 128 + 2), 32);
    }
}
