/** Promise 11, why, and what it is for a record to hold (term 4). */
public final class WhyEdges {
    public static void main(String[] args) {
        eachReason();
        theFirst();
        theLast();
        thereWithTheSameBytes();
        whatDoesNotCount();
        inPlaceOfTheOneBefore();
        ofOtherTests();
        refused();
        Due.done("WhyEdges");
    }

    private static Keeper recorded(String text) {
        Keeper x = Due.loaded(text);
        x.run(1, 1000);
        return x;
    }

    private static int why(String was, String is) {
        Keeper x = recorded(was);
        Due.is("it holds", x.why(0), 0);
        Due.is("it is not picked", x.about(5), 0);
        Due.reload(x, is);
        int why = x.why(0);
        Due.is("it is picked", x.about(5) > 0, why != 0);
        Due.is("it has a verdict", x.verdict(0) != SuiteKeeper.NONE, why == 0);
        return why;
    }

    /** Promise 11, term 7: "1 it has no record; 2 its bytes are others than its record's; 3 + k ..; 0 its record holds". */
    private static void eachReason() {
        Keeper x = Due.loaded("test t{}");
        Due.is("no record", x.why(0), 1);
        x.run(1, 0);
        Due.is("no record by a crash", x.why(0), 1);
        x.run(1, 1);
        Due.is("it holds", x.why(0), 0);
        Due.reload(x, "test t{check true;}");
        Due.is("its bytes", x.why(0), 2);
        Due.reload(x, "test t{}");
        Due.is("its bytes again", x.why(0), 0);
        Due.reload(x, "test tt{}");
        Due.is("another name", x.why(0), 1);
        Due.is("what it touched", why("proc p(){}test t{p();}", "proc p(){return;}test t{p();}"), 3);
    }

    /** Promise 11, term 7: "in the record's order from 0 on, the k-th is the first that isn't there ..". */
    private static void theFirst() {
        String text = "global ga:int=1;global gb:int=1;array aa[1];array ab[1];proc pa(){aa[0]=gb;ab[0]=ga;}proc pb(){pa();}test t{pb();}";
        String[] from = {"ga:int=1", "gb:int=1", "aa[1]", "ab[1]", "ab[0]=ga;}", "pa();}test"};
        String[] to = {"ga:int=2", "gb:int=2", "aa[2]", "ab[2]", "ab[0]=ga;return;}", "pa();return;}test"};
        for (int first = 0; first < from.length; first++) {
            Due.is(from[first] + " alone", why(text, text.replace(from[first], to[first])), 3 + first);
            String all = text;
            for (int k = first; k < from.length; k++) {
                all = all.replace(from[k], to[k]);
            }
            Due.is(from[first] + " and those behind", why(text, all), 3 + first);
            // the test's own bytes come ahead of all
            Due.is("and the test", why(text, all.replace("test t{", "test t{check true;")), 2);
        }
        // the record's order is that of its revision, not that of this one
        String turned = "proc pb(){pa();}proc pa(){aa[0]=gb;ab[0]=ga;}array ab[2];array aa[2];global gb:int=2;global ga:int=2;test t{pb();}";
        Due.is("ga was the first", why(text, turned), 3);
        Due.is("gb is the first that differs", why(text, turned.replace("ga:int=2", "ga:int=1")), 4);
    }

    /** Promise 11, term 7: 3 + k with as many as there can be. */
    private static void theLast() {
        String items = Texts.times("global gN:int=1;", 10) + Texts.times("array aN[1];", 4) + Texts.times("proc pN(){}", 16);
        String text = "test t{let x=0" + Texts.times("+gN", 10) + Texts.times("+aN[0]", 4) + ";" + Texts.times("pN();", 16) + "}" + items;
        Keeper x = recorded(text);
        Due.is("thirty", x.record(0, 3), 30);
        Due.reload(x, text.replace("proc pp(){}", "proc pp(){return;}"));
        Due.is("the thirtieth", x.why(0), 32);
        Due.reload(x, text.replace("gj:int=1", "gj:int=2").replace("proc pp(){}", "proc pp(){return;}"));
        Due.is("the tenth", x.why(0), 12);
    }

    /** Promise 11, term 4: "each touched item is there with the same bytes". */
    private static void thereWithTheSameBytes() {
        String text = "global g:int=1;array b[1];func f():int{return g+b[0];}test t{let x=f();}";
        Due.is("the same text", why(text, text), 0);
        Due.is("another order", why(text, "test t{let x=f();}func f():int{return g+b[0];}array b[1];global g:int=1;"), 0);
        Due.is("more items", why(text, "global z:int=1;array y[1];proc q(){}" + text), 0);
        Due.is("of another type", why(text, text.replace("g:int=1", "g:bool=true").replace("return g+", "g=true;return ")), 3);
        Due.is("of another number", why(text, text.replace("=1;", "=0;")), 3);
        Due.is("with another cell", why(text, text.replace("b[1]", "b[32]")), 4);
        Due.is("of another code", why(text, text.replace("g+b[0]", "b[0]+g")), 5);
        // not there: its name is no item's, or that of another kind
        String called = "proc p(){}test t{if(false){x();}p();}proc x(){}";
        Due.is("called still, but as a func", why("proc p(){}test t{p();}", "func p():int{}test t{}"), 2);
        Due.is("x is not touched", why(called, called.replace("proc x(){}", "proc x(){return;}")), 0);
        String deep = "proc p(){q();}proc q(){r();}proc r(){}test t{p();}";
        Due.is("r isn't there, q differs ahead of it", why(deep, "proc p(){q();}proc q(){}test t{p();}"), 4);
        Due.is("r is a global now", why(deep, "proc p(){q();}proc q(){}global r:int=1;test t{p();}"), 4);
        String global = "proc p(){let x=g;}global g:int=1;test t{p();}";
        Due.is("g isn't there", why(global, "proc p(){let x=1;}test t{p();}"), 3);
        Due.is("g is a test now", why(global, "proc p(){let x=1;}test t{p();}test g{}"), 3);
    }

    /** Promise 11, term 3: "(not the globals that it sets alone)", nor what it doesn't come to. */
    private static void whatDoesNotCount() {
        String text = "global g:int=1;array b[1];proc p(){}test t{g=2;if(false){p();b[0]=1;let x=g;}}";
        Due.is("all of them", why(text, text.replace("=1;array b[1];proc p(){}", "=5;array b[9];proc p(){return;}")), 0);
        // what would be touched behind the run's end
        String ended = "global g:int=1;test t{check false;let x=g;}";
        Due.is("behind a check", why(ended, ended.replace("int=1", "int=2")), 0);
        String both = "global g:int=1;test t{g=2;let x=g;}";
        Due.is("set and read", why(both, both.replace("int=1", "int=2")), 3);
    }

    /** Promise 11, term 4: "leaves, for its test's name, in place of the one before". */
    private static void inPlaceOfTheOneBefore() {
        Keeper x = recorded("test t{}");
        Due.reload(x, "test t{check false;}");
        x.run(1, 1000);
        Due.is("the second one", x.why(0), 0);
        Due.is("its verdict", x.verdict(0), 1);
        Due.reload(x, "test t{}");
        Due.is("not the first any more", x.why(0), 2);
        Due.is("it was of revision 2", x.record(0, 4), 2);
        x.run(1, 1000);
        Due.is("the third one", x.record(0, 4), 3);
        Due.is("its verdict", x.verdict(0), 0);
    }

    /** Promise 11, term 4: "(Records of tests that it hasn't stay, as long as the log isn't made anew.)" */
    private static void ofOtherTests() {
        Keeper x = recorded("test t{}test u{}");
        Due.reload(x, "proc t(){}test v{}");
        x.run(1, 1000);
        Due.reload(x, "global g:int=1;");
        Due.reload(x, "test u{}test t{}");
        Due.is("u's is there", x.why(0), 0);
        Due.is("t's is there", x.why(1), 0);
        Due.is("of revision 1", x.record(1, 4), 1);
        Due.reload(x, "test t{}test w{let x=1+2+3+4+5+6+7+8+9+10;}");
        Due.is("a crash in w's entry", x.run(1, 1), 0);
        Due.is("made anew", x.about(11), 2);
        Due.is("t's is there", x.why(0), 0);
        Due.reload(x, "test u{}test t{}test v{}");
        Due.is("u's went", x.why(0), 1);
        Due.is("t's is there", x.why(1), 0);
        Due.is("v's went", x.why(2), 1);
    }

    /** Promise 11: "IllegalStateException if there is no revision; IndexOutOfBoundsException if there is no such test." */
    private static void refused() {
        Class<IndexOutOfBoundsException> none = IndexOutOfBoundsException.class;
        Keeper x = Due.loaded(Texts.fullOfItems());
        Due.is("the last test", x.why(11), 1);
        int[] tests = {-1, 12, 13, Integer.MAX_VALUE, Integer.MIN_VALUE};
        for (int test : tests) {
            Due.fails("why(" + test + ")", none, () -> x.why(test));
            Due.fails("no revision", IllegalStateException.class, () -> new Keeper().why(test));
        }
        Keeper y = Due.loaded("proc p(){}");
        Due.fails("no tests", none, () -> y.why(0));
    }
}
