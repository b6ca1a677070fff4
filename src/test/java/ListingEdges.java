/** Promise 10, listing. */
public final class ListingEdges {
    public static void main(String[] args) {
        shortest();
        eachWord();
        numbers();
        longest();
        eachPlace();
        refused();
        Due.done("ListingEdges");
    }

    /** Promise 10, term 8: "a line for each instruction of its code: its place, a blank, its word; .. then a line end". */
    private static void shortest() {
        Keeper x = Due.loaded("proc p(){}func f():int{}func g():bool{}test t{}");
        Due.is("p", Due.listing(x, 2, 0), "0 return\n");
        Due.is("f", Due.listing(x, 2, 1), "0 int 0\n5 give\n");
        Due.is("g", Due.listing(x, 2, 2), "0 false\n1 give\n");
        Due.is("t", Due.listing(x, 3, 0), "0 end\n");
    }

    /** Promise 10, term 8: "Words, from 1 on: int true .. over rest": all that code can have. */
    private static void eachWord() {
        Keeper x = Due.loaded("global g:int=1;array b[3];func f(n:int):int{return n;}proc p(){return;}"
                + "test t{let x=true;x=false|x&!x;g=-g;b[1]=b[2]+f(3);p();while(x==x){break;}check g!=4;check g<5;"
                + "check g<=6-7*8/9%10;}");
        Due.is("f", Due.listing(x, 2, 0), "0 local 0\n2 give\n3 int 0\n8 give\n");
        Due.is("p", Due.listing(x, 2, 1), "0 return\n1 return\n");
        Due.is("t", Due.listing(x, 3, 0), "0 true\n1 set 0\n3 false\n4 local 0\n6 local 0\n8 not\n9 and\n10 or\n11 set 0\n"
                + "13 read g\n15 minus\n16 write g\n18 int 1\n23 int 2\n28 cell b\n30 int 3\n35 call f\n37 plus\n38 put b\n"
                + "40 call p\n42 local 0\n44 local 0\n46 same\n47 unless 57\n50 round\n51 jump 57\n54 jump 42\n57 read g\n"
                + "59 int 4\n64 unlike\n65 check 0\n67 read g\n69 int 5\n74 below\n75 check 1\n77 read g\n79 int 6\n84 int 7\n"
                + "89 int 8\n94 times\n95 int 9\n100 over\n101 int 10\n106 rest\n107 less\n108 most\n109 check 2\n111 end\n");
    }

    /** Promise 10, term 8: "Numbers are decimal": those with one digit, and those with more. */
    private static void numbers() {
        String[] written = {"0", "000000", "9", "10", "99", "100", "255", "256", "65535", "65536", "100000", "999999"};
        for (String number : written) {
            Keeper x = Due.loaded("test t{let x=" + number + ";}");
            Due.is(number, Due.listing(x, 3, 0), "0 int " + Integer.parseInt(number) + "\n5 set 0\n7 end\n");
        }
        // the - is an instruction of its own
        Due.is("-1", Due.listing(Due.loaded("test t{let x=-1;}"), 3, 0), "0 int 1\n5 minus\n6 set 0\n8 end\n");
        Keeper y = Due.loaded("test t{" + Texts.times("let xN=true;", 10) + "}");
        StringBuilder due = new StringBuilder();
        for (int k = 0; k < 10; k++) {
            due.append(3 * k).append(" true\n").append(3 * k + 1).append(" set ").append(k).append('\n');
        }
        Due.is("the local's number", Due.listing(y, 3, 0), due + "30 end\n");
        // "the item's name", with one letter and with eight
        Keeper z = Due.loaded("proc abcdefgh(){}proc z(){}test t{abcdefgh();z();}");
        Due.is("names", Due.listing(z, 3, 0), "0 call abcdefgh\n2 call z\n4 end\n");
    }

    /** Promise 10, term 8: places with up to four digits. */
    private static void longest() {
        int sums = 700;
        Keeper x = Due.loaded("test t{let x=1" + "+1".repeat(sums) + ";while(true){}}");
        StringBuilder due = new StringBuilder("0 int 1\n");
        int place = 5;
        for (int k = 0; k < sums; k++) {
            due.append(place).append(" int 1\n").append(place + 5).append(" plus\n");
            place += 6;
        }
        due.append(place).append(" set 0\n").append(place + 2).append(" true\n").append(place + 3).append(" unless ")
                .append(place + 10).append('\n').append(place + 6).append(" round\n").append(place + 7).append(" jump ")
                .append(place + 2).append('\n').append(place + 10).append(" end\n");
        String want = due.toString();
        int[] places = {0, 7, 8, 99, 1000, 9999, want.length() - 60, want.length() - 2, want.length() - 1};
        for (int k : places) {
            Due.is("sign " + k, x.listing(3, 0, k), want.charAt(k));
        }
        for (int k = want.length() - 100; k < want.length(); k++) {
            Due.is("sign " + k, x.listing(3, 0, k), want.charAt(k));
        }
        Due.is("behind the end", x.listing(3, 0, want.length()), SuiteKeeper.NONE);
    }

    /** Promise 10: "Sign i of the LISTING ..; NONE behind its end." */
    private static void eachPlace() {
        Keeper x = Due.loaded("proc p(){}test t{}");
        Due.is("the first", x.listing(3, 0, 0), '0');
        Due.is("the line end", x.listing(3, 0, 5), 10);
        int[] behind = {6, 7, 100, 100000, Integer.MAX_VALUE - 1, Integer.MAX_VALUE};
        for (int i : behind) {
            Due.is("behind the end", x.listing(3, 0, i), SuiteKeeper.NONE);
        }
        Due.is("the line end", x.listing(2, 0, 8), 10);
        Due.is("behind it", x.listing(2, 0, 9), SuiteKeeper.NONE);
    }

    /** Promise 10: "of a routine (kind 2) or test (3) .. Exceptions as for code()." */
    private static void refused() {
        Class<IndexOutOfBoundsException> none = IndexOutOfBoundsException.class;
        Keeper x = Due.loaded(Texts.fullOfItems());
        int[] kinds = {-1, 0, 1, 4, Integer.MAX_VALUE, Integer.MIN_VALUE};
        for (int kind : kinds) {
            Due.fails("kind " + kind, none, () -> x.listing(kind, 0, 0));
        }
        Due.is("the last routine", x.listing(2, 15, 0), '0');
        Due.is("the last test", x.listing(3, 11, 0), '0');
        int[] below = {-1, -2, Integer.MIN_VALUE};
        for (int k : below) {
            Due.fails("sign " + k, none, () -> x.listing(2, 0, k));
            Due.fails("item " + k, none, () -> x.listing(3, k, 0));
        }
        Due.fails("routine 16", none, () -> x.listing(2, 16, 0));
        Due.fails("test 12", none, () -> x.listing(3, 12, 0));
        Due.fails("the greatest", none, () -> x.listing(3, Integer.MAX_VALUE, 0));
        Due.fails("no revision", IllegalStateException.class, () -> new Keeper().listing(2, 0, 0));
        Due.fails("no revision comes first", IllegalStateException.class, () -> new Keeper().listing(0, 0, -1));
    }
}
