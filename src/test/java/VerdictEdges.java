/** Promise 24, verdict, and 22, run: how a run goes and ends, from term 3. */
public final class VerdictEdges {
    public static void main(String[] args) {
        itsEnd();
        checks();
        divisions();
        fuel();
        openCalls();
        fuelAheadOfOpenCalls();
        cells();
        bothSides();
        atTheBeginning();
        wraps();
        ofTheRecord();
        refused();
        Due.done("VerdictEdges");
    }

    /** The verdict of the first test, by a run, by its record and by a trace; and the fuel that it took. */
    private static void ends(String text, int verdict, int fuel) {
        Keeper x = Due.loaded(text);
        x.run(1, 1000);
        Due.is("verdict of " + text, x.verdict(0), verdict);
        Due.is("recorded verdict of " + text, x.record(0, 0), verdict);
        Due.is("fuel of " + text, x.record(0, 2), fuel);
        Due.is("time of " + text, x.slot(0, 3), x.slot(0, 2) + fuel + 1);
        x.trace(0);
        for (int n = 0; n < 50 && x.traced(0) == SuiteKeeper.NONE; n++) {
            x.step(100000);
        }
        Due.is("traced verdict of " + text, x.traced(0), verdict);
        Due.is("traced fuel of " + text, x.traced(1), fuel);
    }

    /** Promise 24, term 3: "0 it came to its end". */
    private static void itsEnd() {
        ends("test t{}", 0, 0);
        ends("test t{check true;}", 0, 0);
        ends("test t{p();}proc p(){return;check false;}", 0, 1);
        ends("test t{if(false){check false;}else{}}", 0, 0);
        ends("test t{while(true){break;check false;}}", 0, 1);
        ends("test t{let i=0;while(i<3){i=i+1;continue;check false;}check i==3;}", 0, 3);
        ends("test t{check f();}func f():bool{return true;return false;}", 0, 1);
        // "At the end of a func 1 with 0 (3 if it gives a bool)"
        ends("test t{check f()==0&!k();}func f():int{}func k():bool{}", 0, 2);
    }

    /** Promise 24, term 3: "1 a check that was false (it ends there)". */
    private static void checks() {
        ends("test t{check false;check true;let x=1/0;}", 1, 0);
        ends("test t{p();check true;}proc p(){check true;check false;}", 1, 1);
        ends("test t{check 1<2;check 2<1;p();}proc p(){}", 1, 0);
    }

    /** Promise 24, term 3: "2 a division by 0"; "/ and % as in Java". */
    private static void divisions() {
        ends("test t{let x=1/0;}", 2, 0);
        ends("test t{let x=1%0;}", 2, 0);
        ends("test t{let x=0/0;}", 2, 0);
        ends("test t{let x=1/(1-1);check false;}", 2, 0);
        ends("test t{let x=0/1;let y=0%1;check x==0&y==0;}", 0, 0);
        ends("test t{check 7/2==3&-7/2==-3&7/-2==-3&-7/-2==3;}", 0, 0);
        ends("test t{check 7%2==1&-7%2==-1&7%-2==1&-7%-2==-1;}", 0, 0);
        // the least number by -1
        String least = "let m=-32768*65536;";
        ends("test t{" + least + "check m<0&0<=m-1;}", 0, 0);
        ends("test t{" + least + "check m/-1==m&m%-1==0&-m==m;}", 0, 0);
    }

    /** Promise 24, term 3: "FUEL: 3000. Each call .. and each round (16) takes one."; "3 fuel was to be taken and there was none". */
    private static void fuel() {
        String rounds = "test t{let i=0;while(i<^){i=i+1;}}";
        ends(rounds.replace("^", "2999"), 0, 2999);
        ends(rounds.replace("^", "3000"), 0, 3000);
        ends(rounds.replace("^", "3001"), 3, 3000);
        ends("test t{while(true){}}", 3, 3000);
        ends("test t{while(true){continue;}}", 3, 3000);
        // calls: 2999 rounds leave one
        String calls = "test t{let i=0;while(i<^){i=i+1;}p();}proc p(){}";
        ends(calls.replace("^", "2999"), 0, 3000);
        ends(calls.replace("^", "3000"), 3, 3000);
        // a call and a round each: 1500 of both, then a round that has none
        String both = "test t{let i=0;while(i<^){i=i+f();}}func f():int{return 1;}";
        ends(both.replace("^", "1500"), 0, 3000);
        ends(both.replace("^", "1501"), 3, 3000);
        // the condition that is false takes none, whatever it costs to work it out
        ends("test t{while(false){}while(1<0){}}", 0, 0);
        ends("test t{while(k()){}}func k():bool{return false;}", 0, 1);
        // "(its parameters being worked out)": they are ahead of the call's own fuel
        ends("test t{let i=0;while(i<2999){i=i+1;}p(1/0);}proc p(n:int){}", 2, 2999);
        ends("test t{let i=0;while(i<3000){i=i+1;}p(1/0);}proc p(n:int){}", 2, 3000);
        ends("test t{let i=0;while(i<2999){i=i+1;}p(f());}proc p(n:int){}func f():int{}", 3, 3000);
    }

    /** Promise 24, term 3: "4 a call, fuel taken, with 20 calls open". */
    private static void openCalls() {
        // p(n) has n more calls within it
        String deep = "test t{p(^);}proc p(n:int){if(0<n){p(n-1);}}";
        ends(deep.replace("^", "0"), 0, 1);
        ends(deep.replace("^", "18"), 0, 19);
        ends(deep.replace("^", "19"), 0, 20);
        ends(deep.replace("^", "20"), 4, 21);
        ends(deep.replace("^", "21"), 4, 21);
        ends("test t{p();}proc p(){p();}", 4, 21);
        ends("test t{let x=f();}func f():int{return f()+1;}", 4, 21);
        ends("test t{p();}proc p(){q();}proc q(){p();}", 4, 21);
        // one behind the other they are never open at once
        ends("test t{let i=0;while(i<40){p(19);i=i+1;}}proc p(n:int){if(0<n){p(n-1);}}", 0, 840);
    }

    /** Promise 24, term 3: of verdicts 3 and 4 the fuel comes first: "a call, fuel taken". */
    private static void fuelAheadOfOpenCalls() {
        // i rounds, then 20 calls, then the one that is too many
        String text = "test t{let i=0;while(i<^){i=i+1;}p();}proc p(){p();}";
        ends(text.replace("^", "2979"), 4, 3000);
        ends(text.replace("^", "2980"), 3, 3000);
        ends(text.replace("^", "2981"), 3, 3000);
    }

    /** Promise 24, term 3: "5 an index that is no cell's". */
    private static void cells() {
        int[] sizes = {1, 2, 31, 32};
        for (int size : sizes) {
            String array = "array z[32];array b[" + size + "];array y[32];";
            int[] indexes = {-999999, -1, 0, size - 1, size, size + 1, 999999};
            for (int index : indexes) {
                int verdict = index >= 0 && index < size ? 0 : 5;
                ends("test t{let x=b[" + index + "];check x==0;}" + array, verdict, 0);
                ends("test t{b[" + index + "]=7;check b[" + index + "]==7;}" + array, verdict, 0);
            }
        }
        ends("test t{let x=b[-32768*65536];}array b[32];", 5, 0);
        ends("test t{b[-32768*65536-1]=1;}array b[32];", 5, 0);
        // what is set is worked out ahead of the index's being looked at
        ends("test t{b[2]=1/0;}array b[2];", 2, 0);
        ends("test t{b[2]=f();}array b[2];func f():int{}", 5, 1);
        // cells are of one array each
        ends("test t{a[31]=1;b[0]=2;c[0]=3;check a[31]==1&b[0]==2&c[0]==3&a[0]==0;}array a[32];array b[1];array c[1];", 0, 0);
    }

    /** Promise 24, term 3: "& and | work out both sides". */
    private static void bothSides() {
        ends("test t{let x=false&1/0==1;}", 2, 0);
        ends("test t{let x=true|1/0==1;}", 2, 0);
        ends("test t{let x=k()&k()|k()&k();}func k():bool{return true;}", 0, 4);
        ends("test t{check !(true&false)&!(false&true)&!(false&false)&(true&true);}", 0, 0);
        ends("test t{check (true|false)&(false|true)&!(false|false)&(true|true);}", 0, 0);
        // from left to right
        ends("test t{let x=1/0+b[9];}array b[1];", 2, 0);
        ends("test t{let x=b[9]+1/0;}array b[1];", 5, 0);
        ends("test t{p(1/0,b[9]);}proc p(x:int,y:int){}array b[1];", 2, 0);
    }

    /** Promise 24, term 3: "Locals are 0 (false) until they are set; a run of a test begins with all globals as their items say, and arrays of 0". */
    private static void atTheBeginning() {
        ends("test t{if(false){let x=1;let y=true;}check x==0;check !y;}", 0, 0);
        ends("test t{p();p();}proc p(){check n==0;}global n:int=0;", 0, 2);
        ends("test t{p();p();}proc p(){if(false){let x=1;}check x==0;x=5;}", 0, 2);
        Keeper x = Due.loaded("global g:int=-5;global h:bool=true;array b[2];"
                + "test s{g=9;h=false;b[0]=1;b[1]=2;}test t{check g==-5;check h;check b[0]==0;check b[1]==0;}");
        x.run(1, 1000);
        Due.is("s", x.verdict(0), 0);
        Due.is("t begins anew", x.verdict(1), 0);
        x.trace(0);
        x.step(100);
        x.trace(1);
        x.step(100);
        Due.is("a trace, too", x.traced(0), 0);
    }

    /** Promise 24, term 3: "+ - * wrap". */
    private static void wraps() {
        String greatest = "let m=32767*65536+65535;";
        ends("test t{" + greatest + "check 0<m&m+1<0&m+1-1==m&m*2==-2&m*m==1&-m-2==m;}", 0, 0);
        ends("test t{check 65536*65536==0&65536*32768<0&999999*999999==-(729*1000*1000+379967);}", 0, 0);
    }

    /** Promise 24: "The verdict of a test; NONE if its record doesn't hold." */
    private static void ofTheRecord() {
        String text = "proc p(){check true;}test t{p();check false;}";
        Keeper x = Due.loaded(text);
        Due.is("no record", x.verdict(0), SuiteKeeper.NONE);
        x.run(1, 0);
        Due.is("no record by a crash", x.verdict(0), SuiteKeeper.NONE);
        x.run(1, 1000);
        Due.is("it holds", x.verdict(0), 1);
        Due.reload(x, text.replace("check true;", ""));
        Due.is("it doesn't", x.verdict(0), SuiteKeeper.NONE);
        Due.is("the record is there", x.record(0, 0), 1);
        Due.reload(x, text);
        Due.is("it holds again", x.verdict(0), 1);
        x.trace(0);
        x.step(100);
        Due.is("a trace makes no difference", x.verdict(0), 1);
    }

    /** Promise 24: "IllegalStateException if there is no revision; IndexOutOfBoundsException if there is no such test." */
    private static void refused() {
        Class<IndexOutOfBoundsException> none = IndexOutOfBoundsException.class;
        Keeper x = Due.loaded(Texts.fullOfItems());
        x.run(64, 1000);
        Due.is("the last test", x.verdict(11), 0);
        int[] tests = {-1, 12, Integer.MAX_VALUE, Integer.MIN_VALUE};
        for (int test : tests) {
            Due.fails("verdict(" + test + ")", none, () -> x.verdict(test));
            Due.fails("no revision", IllegalStateException.class, () -> new Keeper().verdict(test));
        }
    }
}
