/** Promise 10: listing. */
public final class ListingTest {
    public static void main(String[] args) {
        Keeper x = Due.loaded("global glob:int=0;array arr[2];proc pr(n:int){return;}"
                + "func fun(n:int,b:bool):int{arr[n]=-n;if(!b|b&b){return arr[n]+1-2*3/4%999999;}else{glob=glob;}}"
                + "test t{while(1<2){break;}check 1==1;check 1!=2;check 1<=2;pr(fun(0,false));let x=true;}");
        Due.is("pr", Due.listing(x, 2, 0), "0 return\n1 return\n");
        Due.is("fun", Due.listing(x, 2, 1), "0 local 0\n2 local 0\n4 minus\n5 put arr\n7 local 1\n9 not\n"
                + "10 local 1\n12 local 1\n14 and\n15 or\n16 unless 57\n19 local 0\n21 cell arr\n23 int 1\n"
                + "28 plus\n29 int 2\n34 int 3\n39 times\n40 int 4\n45 over\n46 int 999999\n51 rest\n52 less\n"
                + "53 give\n54 jump 61\n57 read glob\n59 write glob\n61 int 0\n66 give\n");
        Due.is("t", Due.listing(x, 3, 0), "0 int 1\n5 int 2\n10 below\n11 unless 21\n14 round\n15 jump 21\n"
                + "18 jump 0\n21 int 1\n26 int 1\n31 same\n32 check 0\n34 int 1\n39 int 2\n44 unlike\n45 check 1\n"
                + "47 int 1\n52 int 2\n57 most\n58 check 2\n60 int 0\n65 false\n66 call fun\n68 call pr\n"
                + "70 true\n71 set 0\n73 end\n");
        Due.is("behind the end", x.listing(2, 0, 18), SuiteKeeper.NONE);
        Due.is("far behind the end", x.listing(2, 0, Integer.MAX_VALUE), SuiteKeeper.NONE);
        Class<IndexOutOfBoundsException> none = IndexOutOfBoundsException.class;
        Due.fails("kind 0", none, () -> x.listing(0, 0, 0));
        Due.fails("kind 1", none, () -> x.listing(1, 0, 0));
        Due.fails("kind 4", none, () -> x.listing(4, 0, 0));
        Due.fails("kind -1", none, () -> x.listing(-1, 0, 0));
        Due.fails("routine 2", none, () -> x.listing(2, 2, 0));
        Due.fails("test -1", none, () -> x.listing(3, -1, 0));
        Due.fails("sign -1", none, () -> x.listing(3, 0, -1));
        Due.fails("no revision", IllegalStateException.class, () -> new Keeper().listing(0, 0, -1));
        Due.done("ListingTest");
    }
}
