/** Promise 6: code, with the bytes of all that can stand in a text. */
public final class CodeTest {
    public static void main(String[] args) {
        data();
        heads();
        expressions();
        statements();
        names();
        longNames();
        longCode();
        wrongInputs();
        Due.done("CodeTest");
    }

    private static void data() {
        Keeper x = Due.loaded("global a:int=-2;array b[32];global c:bool=true;global d:bool=false;"
                + "global e:int=999999;array f[1];");
        Due.is("a", Due.bytes(x, 0, 0), "0 0 254 255 255 255");
        Due.is("c", Due.bytes(x, 0, 1), "0 1 1 0 0 0");
        Due.is("d", Due.bytes(x, 0, 2), "0 1 0 0 0 0");
        Due.is("e", Due.bytes(x, 0, 3), "0 0 63 66 15 0");
        Due.is("b", Due.bytes(x, 1, 0), "1 32");
        Due.is("f", Due.bytes(x, 1, 1), "1 1");
        Due.is("behind the end", x.code(1, 1, 2), SuiteKeeper.NONE);
        Due.is("far behind the end", x.code(1, 1, Integer.MAX_VALUE), SuiteKeeper.NONE);
    }

    private static void heads() {
        Keeper x = Due.loaded("func f(a:int,b:bool,c:int,d:bool):bool{let e=1;}func g():int{}proc p(a:bool){}test t{}");
        Due.is("f", Due.bytes(x, 2, 0), "2 4 0 1 0 1 1 5 9 0 1 1 0 0 0 5 4 3 11 0");
        Due.is("g", Due.bytes(x, 2, 1), "2 0 0 0 6 0 1 0 0 0 0 11 0");
        Due.is("p", Due.bytes(x, 2, 2), "3 1 1 2 1 1 0 12 0");
        Due.is("t", Due.bytes(x, 3, 0), "4 0 2 0 1 0 13 0");
    }

    /** The code alone of a test with these statements. */
    private static String code(String statements) {
        Keeper x = Due.loaded("test t{" + statements + "}global g:int=1;global h:bool=true;array b[2];"
                + "func f(x:int,y:int):int{}proc p(){}");
        String[] all = Due.bytes(x, 3, 0).split(" ");
        int size = Integer.parseInt(all[4]) + 256 * Integer.parseInt(all[5]);
        StringBuilder code = new StringBuilder();
        for (int k = 6; k < 6 + size; k++) {
            code.append(k == 6 ? "" : " ").append(all[k]);
        }
        return code.toString();
    }

    private static void expressions() {
        Due.is("number", code("let x=258;"), "1 2 1 0 0 5 0 13");
        Due.is("true, false", code("let x=true;let y=false;"), "2 5 0 3 5 1 13");
        Due.is("signs", code("let x=-g;let y=!h;"), "6 0 19 5 0 6 1 20 5 1 13");
        Due.is("| &", code("check h|h&h;"), "6 0 6 0 6 0 22 21 17 0 13");
        Due.is("== !=", code("check g==g;check g!=g;"), "6 0 6 0 23 17 0 6 0 6 0 24 17 1 13");
        Due.is("< <=", code("check g<g;check g<=g;"), "6 0 6 0 25 17 0 6 0 6 0 26 17 1 13");
        Due.is("+ -", code("g=g+g-g;"), "6 0 6 0 27 6 0 28 7 0 13");
        Due.is("* / %", code("g=g*g/g%g;"), "6 0 6 0 29 6 0 30 6 0 31 7 0 13");
        Due.is("products first", code("g=g+g*g;"), "6 0 6 0 6 0 29 27 7 0 13");
        Due.is("parentheses", code("g=(g+g)*g;"), "6 0 6 0 27 6 0 29 7 0 13");
        Due.is("cell", code("g=b[g];"), "6 0 8 1 7 0 13");
        Due.is("call", code("g=f(g,b[g]);"), "6 0 6 0 8 1 10 2 7 0 13");
        Due.is("- of a factor alone", code("g=-g+g;"), "6 0 19 6 0 27 7 0 13");
    }

    private static void statements() {
        Due.is("let, set", code("let x=g;x=x;"), "6 0 5 0 4 0 5 0 13");
        Due.is("set cell", code("b[g]=g;"), "6 0 6 0 9 1 13");
        Due.is("call", code("p();"), "10 0 13");
        Due.is("if", code("if(h){p();}"), "6 0 15 7 0 10 1 13");
        Due.is("if, else", code("if(h){p();}else{g=g;}"), "6 0 15 10 0 10 1 14 14 0 6 2 7 2 13");
        Due.is("empty blocks", code("if(h){}else{}"), "6 0 15 8 0 14 8 0 13");
        Due.is("while", code("p();while(h){p();}"), "10 0 6 1 15 13 0 16 10 0 14 2 0 13");
        Due.is("break, continue", code("while(h){break;continue;}"), "6 0 15 15 0 16 14 15 0 14 0 0 14 0 0 13");
        Due.is("inner while", code("while(h){while(h){break;}break;}"),
                "6 0 15 24 0 16 6 0 15 18 0 16 14 18 0 14 6 0 14 24 0 14 0 0 13");
        Keeper x = Due.loaded("func f(a:int):int{return a;}proc p(){return;}func q():bool{return true;}");
        Due.is("return of an int", Due.bytes(x, 2, 0), "2 1 0 0 1 9 0 4 0 11 1 0 0 0 0 11 0");
        Due.is("return", Due.bytes(x, 2, 1), "3 0 2 0 2 0 12 12 0");
        Due.is("return of a bool", Due.bytes(x, 2, 2), "2 0 1 0 4 0 2 11 3 11 0");
    }

    private static void names() {
        Keeper x = Due.loaded("test t{arr[glob]=fun(glob);pr();glob=arr[0];}proc pr(){}func fun(a:int):int{}"
                + "array arr[1];global glob:int=0;");
        Due.is("names in the order of need", Due.bytes(x, 3, 0), "4 0 2 0 20 0 "
                + "6 0 6 0 10 1 9 2 10 3 1 0 0 0 0 8 2 7 0 13"
                + " 4 0 4 103 108 111 98 2 3 102 117 110 1 3 97 114 114 3 2 112 114");
    }

    private static void longNames() {
        Keeper x = Due.loaded("proc abcdefgh(){}global z:int=1;test t{abcdefgh();z=z;}");
        Due.is("eight letters and one", Due.bytes(x, 3, 0),
                "4 0 2 0 7 0 10 0 6 1 7 1 13 2 3 8 97 98 99 100 101 102 103 104 0 1 122");
    }

    /** Sizes and places of two bytes. */
    private static void longCode() {
        StringBuilder sum = new StringBuilder("1");
        for (int k = 0; k < 100; k++) {
            sum.append("+1");
        }
        Keeper x = Due.loaded("test t{while(true){let n=" + sum + ";if(true){break;}continue;}}");
        String[] all = Due.bytes(x, 3, 0).split(" ");
        // true, unless, round, 101 numbers, 100 sums, set, true, unless, break, continue, back, end
        int size = 1 + 3 + 1 + 505 + 100 + 2 + 1 + 3 + 3 + 3 + 3 + 1;
        Due.is("bytes", all.length, 6 + size + 1);
        Due.is("size", all[4] + " " + all[5], size % 256 + " " + size / 256);
        int behind = size - 1;
        Due.is("behind all", all[8] + " " + all[9], behind % 256 + " " + behind / 256);
        int end = 6 + behind - 12;
        Due.is("behind the if", all[end + 1] + " " + all[end + 2], (behind - 6) % 256 + " " + (behind - 6) / 256);
        Due.is("break", all[end + 4] + " " + all[end + 5], behind % 256 + " " + behind / 256);
        Due.is("continue", all[end + 7] + " " + all[end + 8], "0 0");
    }

    private static void wrongInputs() {
        Keeper x = Due.loaded("global g:int=1;test t{}");
        Class<IndexOutOfBoundsException> none = IndexOutOfBoundsException.class;
        Due.fails("kind 4", none, () -> x.code(4, 0, 0));
        Due.fails("kind -1", none, () -> x.code(-1, 0, 0));
        Due.fails("no array", none, () -> x.code(1, 0, 0));
        Due.fails("no routine", none, () -> x.code(2, 0, 0));
        Due.fails("global 1", none, () -> x.code(0, 1, 0));
        Due.fails("test -1", none, () -> x.code(3, -1, 0));
        Due.fails("byte -1", none, () -> x.code(3, 0, -1));
        Due.fails("byte least", none, () -> x.code(3, 0, Integer.MIN_VALUE));
        Due.fails("no revision", IllegalStateException.class, () -> new Keeper().code(4, 0, 0));
    }
}
