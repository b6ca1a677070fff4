/** Promise 6, code, with the bytes of term 2. */
public final class CodeEdges {
    public static void main(String[] args) {
        data();
        lowestFirst();
        heads();
        names();
        asManyNames();
        checks();
        jumps();
        tails();
        eachPlace();
        refused();
        Due.done("CodeEdges");
    }

    private static String range(Keeper x, int kind, int item, int from, int to) {
        StringBuilder all = new StringBuilder();
        for (int k = from; k < to; k++) {
            all.append(k == from ? "" : " ").append(x.code(kind, item, k));
        }
        return all.toString();
    }

    /** Promise 6, term 2: "a global: 0, its type .., its number at first in four bytes (true 1). An array: 1, how many cells." */
    private static void data() {
        String[] constants = {"0", "-0", "1", "-1", "255", "256", "-256", "65535", "65536", "999999", "-999999"};
        String[] due = {"0 0 0 0", "0 0 0 0", "1 0 0 0", "255 255 255 255", "255 0 0 0", "0 1 0 0", "0 255 255 255",
            "255 255 0 0", "0 0 1 0", "63 66 15 0", "193 189 240 255"};
        for (int k = 0; k < constants.length; k++) {
            Keeper x = Due.loaded("global g:int=" + constants[k] + ";");
            Due.is(constants[k], Due.bytes(x, 0, 0), "0 0 " + due[k]);
        }
        Due.is("true", Due.bytes(Due.loaded("global g:bool=true;"), 0, 0), "0 1 1 0 0 0");
        Due.is("false", Due.bytes(Due.loaded("global g:bool=false;"), 0, 0), "0 1 0 0 0 0");
        Due.is("1 cell", Due.bytes(Due.loaded("array a[1];"), 1, 0), "1 1");
        Due.is("32 cells", Due.bytes(Due.loaded("array a[32];"), 1, 0), "1 32");
    }

    /** Promise 6, term 2: "numbers of two or four bytes with the lowest first". */
    private static void lowestFirst() {
        String[] numbers = {"0", "127", "128", "255", "256", "65535", "65536", "999999"};
        String[] due = {"0 0 0 0", "127 0 0 0", "128 0 0 0", "255 0 0 0", "0 1 0 0", "255 255 0 0", "0 0 1 0", "63 66 15 0"};
        for (int k = 0; k < numbers.length; k++) {
            Keeper x = Due.loaded("test t{let x=" + numbers[k] + ";}");
            Due.is(numbers[k], Due.bytes(x, 3, 0), "4 0 2 1 8 0 1 " + due[k] + " 5 0 13 0");
        }
        // a code of 255, of 256 and of 257 bytes: numbers of 5 bytes, + of 1, set and local of 2, true and end of 1
        String[] texts = {"+1".repeat(40) + ";let y=1;", "+1".repeat(40) + ";let y=x;y=x;", "+1".repeat(41) + ";let y=true;"};
        String[] sizes = {"255 0", "0 1", "1 1"};
        for (int k = 0; k < texts.length; k++) {
            Keeper x = Due.loaded("test t{let x=1" + texts[k] + "}");
            Due.is("size", range(x, 3, 0, 4, 6), sizes[k]);
            Due.is("its end", range(x, 3, 0, 6 + 254 + k, 6 + 256 + k), "13 0");
        }
    }

    /** Promise 6, term 2: "2 (func), 3 (proc) or 4 (test); how many parameters, each one's type; the type that it gives (2: none); how many locals". */
    private static void heads() {
        String[] texts = {"func a():int{}", "func a():bool{}", "proc a(){}", "func a(b:bool):int{}", "proc a(b:int){}",
            "proc a(b:int,c:bool,d:bool,e:int){}", "func a(b:bool,c:bool,d:bool,e:bool):bool{}"};
        String[] due = {"2 0 0 0 6 0", "2 0 1 0 2 0", "3 0 2 0 1 0", "2 1 1 0 1 6 0", "3 1 0 2 1 1 0",
            "3 4 0 1 1 0 2 4 1 0", "2 4 1 1 1 1 1 4 2 0"};
        for (int k = 0; k < texts.length; k++) {
            Keeper x = Due.loaded(texts[k]);
            Due.is(texts[k], range(x, 2, 0, 0, due[k].split(" ").length), due[k]);
        }
        Keeper x = Due.loaded("test t{" + Texts.times("let xN=true;", 10) + "}proc p(a:int,b:int,c:int,d:int){"
                + Texts.times("let yN=true;", 6) + "}");
        Due.is("ten locals", range(x, 3, 0, 0, 6), "4 0 2 10 31 0");
        Due.is("the tenth local's number", range(x, 3, 0, 6 + 27, 6 + 31), "2 5 9 13");
        Due.is("with parameters", range(x, 2, 0, 0, 10), "3 4 0 0 0 0 2 10 19 0");
        Due.is("lets come behind parameters", range(x, 2, 0, 10, 13), "2 5 4");
        // a let that isn't come to is one, too
        Keeper y = Due.loaded("test t{if(false){let x=1;}else{let y=1;}}");
        Due.is("two", y.code(3, 0, 3), 2);
    }

    /** Promise 6, term 2: "Names come in the order in which the code first needs them, each once". */
    private static void names() {
        String items = "global g:int=1;array b[2];func f(n:int):int{}proc p(n:int){}";
        Due.is("none", Due.bytes(Due.loaded("test t{}"), 3, 0), "4 0 2 0 1 0 13 0");
        Due.is("the index, what is set, then the array", Due.bytes(Due.loaded(items + "test t{b[g]=f(g);}"), 3, 0),
                "4 0 2 0 9 0 6 0 6 0 10 1 9 2 13 3 0 1 103 2 1 102 1 1 98");
        Due.is("parameters, then the routine", Due.bytes(Due.loaded(items + "test t{p(b[f(g)]);}"), 3, 0),
                "4 0 2 0 9 0 6 0 10 1 8 2 10 3 13 4 0 1 103 2 1 102 1 1 98 3 1 112");
        Due.is("what is set alone", Due.bytes(Due.loaded(items + "test t{g=1;}"), 3, 0),
                "4 0 2 0 8 0 1 1 0 0 0 7 0 13 1 0 1 103");
        Due.is("itself", Due.bytes(Due.loaded("proc p(){p();p();}"), 2, 0), "3 0 2 0 5 0 10 0 10 0 12 1 3 1 112");
        Due.is("each once", Due.bytes(Due.loaded(items + "test t{g=g;g=g;}"), 3, 0),
                "4 0 2 0 9 0 6 0 7 0 6 0 7 0 13 1 0 1 103");
        Due.is("eight letters", Due.bytes(Due.loaded("proc abcdefgh(){abcdefgh();}"), 2, 0),
                "3 0 2 0 3 0 10 0 12 1 3 8 97 98 99 100 101 102 103 104");
        // "(0 global, 1 array, 2 func, 3 proc)": a func that is a proc makes other bytes of what calls it
        Due.is("a local of a routine's name is none", Due.bytes(Due.loaded("test t{let z=1;z=z;}proc z(){}"), 3, 0),
                "4 0 2 1 12 0 1 1 0 0 0 5 0 4 0 5 0 13 0");
    }

    /** Promise 6, term 2: "how many NAMES": as many as there can be in a text. */
    private static void asManyNames() {
        Keeper x = Due.loaded(Texts.times("global gN:int=1;", 10) + Texts.times("array aN[1];", 4)
                + Texts.times("proc pN(){}", 15) + "proc z(){" + Texts.times("gN=1;", 10) + Texts.times("aN[0]=1;", 4)
                + Texts.times("pN();", 15) + "z();}");
        int code = 10 * 7 + 4 * 12 + 15 * 2 + 2 + 1;
        Due.is("its code's size", range(x, 2, 15, 4, 6), code + " 0");
        Due.is("the last global, set", range(x, 2, 15, 6 + 63, 6 + 70), "1 1 0 0 0 7 9");
        Due.is("the last array, set", range(x, 2, 15, 6 + 70 + 36, 6 + 70 + 48), "1 0 0 0 0 1 1 0 0 0 9 13");
        Due.is("the last call but one, and its own", range(x, 2, 15, 6 + code - 5, 6 + code), "10 28 10 29 12");
        Due.is("how many", x.code(2, 15, 6 + code), 30);
        int end = 6 + code + 1 + 29 * 4 + 3;
        Due.is("the last name", range(x, 2, 15, end - 3, end), "3 1 122");
        Due.is("behind it", x.code(2, 15, end), SuiteKeeper.NONE);
    }

    /** Promise 6, term 2: "17 check (its number in the item, from 0 on)". */
    private static void checks() {
        Keeper x = Due.loaded("proc p(b:bool){" + "check b;".repeat(170) + "}test t{check true;if(true){check false;}check true;}");
        for (int k = 0; k < 170; k++) {
            Due.is("check " + k, x.code(2, 0, 7 + 4 * k + 3), k);
        }
        Due.is("another item's", range(x, 3, 0, 6, 19), "2 17 0 2 15 10 0 3 17 1 2 17 2");
    }

    /** Promise 6, term 2: "14 jump, 15 jump if false (two bytes: to which byte of the code)". */
    private static void jumps() {
        Due.is("if", Due.bytes(Due.loaded("test t{if(true){}}"), 3, 0), "4 0 2 0 5 0 2 15 4 0 13 0");
        Due.is("if, else", Due.bytes(Due.loaded("test t{if(true){}else{}}"), 3, 0), "4 0 2 0 8 0 2 15 7 0 14 7 0 13 0");
        Due.is("while", Due.bytes(Due.loaded("test t{while(true){}}"), 3, 0), "4 0 2 0 9 0 2 15 8 0 16 14 0 0 13 0");
        Due.is("break", Due.bytes(Due.loaded("test t{while(true){break;}}"), 3, 0),
                "4 0 2 0 12 0 2 15 11 0 16 14 11 0 14 0 0 13 0");
        Due.is("continue", Due.bytes(Due.loaded("test t{while(true){continue;}}"), 3, 0),
                "4 0 2 0 12 0 2 15 11 0 16 14 0 0 14 0 0 13 0");
        Due.is("of the inner while", Due.bytes(Due.loaded("test t{while(true){while(false){break;continue;}break;}}"), 3, 0),
                "4 0 2 0 26 0 2 15 25 0 16 3 15 19 0 16 14 19 0 14 5 0 14 5 0 14 25 0 14 0 0 13 0");
        // places of two bytes
        String sum = "1" + "+1".repeat(42);
        int set = 5 + 42 * 6 + 2;
        Keeper x = Due.loaded("test t{let x=" + sum + ";while(true){break;}}");
        int behind = set + 11;
        Due.is("behind all", range(x, 3, 0, 6 + set, 6 + set + 12),
                "2 15 " + (behind - 256) + " 1 16 14 " + (behind - 256) + " 1 14 " + (set - 256) + " 1 13");
        Keeper y = Due.loaded("test t{let x=1;if(true){x=" + sum + ";}else{x=2;}}");
        Due.is("to the else", range(y, 3, 0, 6 + 8, 6 + 11), "15 " + (7 + 4 + set + 3 - 256) + " 1");
    }

    /** Promise 6, term 2: "At the end of a func 1 with 0 (3 if it gives a bool) and 11; of a proc 12; of a test 13." */
    private static void tails() {
        Due.is("int", Due.bytes(Due.loaded("func f():int{}"), 2, 0), "2 0 0 0 6 0 1 0 0 0 0 11 0");
        Due.is("bool", Due.bytes(Due.loaded("func f():bool{}"), 2, 0), "2 0 1 0 2 0 3 11 0");
        Due.is("proc", Due.bytes(Due.loaded("proc p(){}"), 2, 0), "3 0 2 0 1 0 12 0");
        Due.is("test", Due.bytes(Due.loaded("test t{}"), 3, 0), "4 0 2 0 1 0 13 0");
        Due.is("also behind a return", Due.bytes(Due.loaded("func f():bool{return true;}"), 2, 0), "2 0 1 0 4 0 2 11 3 11 0");
        Due.is("of a proc, too", Due.bytes(Due.loaded("proc p(){return;}"), 2, 0), "3 0 2 0 2 0 12 12 0");
    }

    /** Promise 6: "Byte k of an item of the revision: ..; NONE behind its end." */
    private static void eachPlace() {
        Keeper x = Due.loaded("global g:int=-1;array a[5];proc p(){}test t{}");
        int[] sizes = {6, 2, 8, 8};
        int[] last = {255, 5, 0, 0};
        for (int kind = 0; kind < 4; kind++) {
            Due.is("the last byte", x.code(kind, 0, sizes[kind] - 1), last[kind]);
            int[] behind = {sizes[kind], sizes[kind] + 1, 100000, Integer.MAX_VALUE - 1, Integer.MAX_VALUE};
            for (int k : behind) {
                Due.is("behind the end", x.code(kind, 0, k), SuiteKeeper.NONE);
            }
        }
    }

    /** Promise 6: "IndexOutOfBoundsException if there is no such kind or item, or k is below 0". */
    private static void refused() {
        Class<IndexOutOfBoundsException> none = IndexOutOfBoundsException.class;
        Keeper x = Due.loaded(Texts.fullOfItems());
        int[] counts = {10, 4, 16, 12};
        for (int k = 0; k < 4; k++) {
            int kind = k;
            Due.is("the last one", x.code(kind, counts[kind] - 1, 0), kind < 2 ? kind : kind + 1);
            int[] items = {-1, counts[kind], counts[kind] + 1, 42, Integer.MAX_VALUE, Integer.MIN_VALUE};
            for (int item : items) {
                Due.fails("code(" + kind + ", " + item + ", 0)", none, () -> x.code(kind, item, 0));
            }
            int[] places = {-1, -2, Integer.MIN_VALUE};
            for (int place : places) {
                Due.fails("code(" + kind + ", 0, " + place + ")", none, () -> x.code(kind, 0, place));
            }
        }
        int[] kinds = {-1, 4, 5, Integer.MAX_VALUE, Integer.MIN_VALUE};
        for (int kind : kinds) {
            Due.fails("code(" + kind + ", 0, 0)", none, () -> x.code(kind, 0, 0));
            Due.fails("no revision", IllegalStateException.class, () -> new Keeper().code(kind, 0, -1));
        }
        Keeper y = Due.loaded("test t{}");
        for (int k = 0; k < 3; k++) {
            int kind = k;
            Due.fails("none of kind " + kind, none, () -> y.code(kind, 0, 0));
        }
    }
}
