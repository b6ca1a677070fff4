/** Promise 4: load, with the fault and the misfit of a text. A ^ stands ahead of the place that is due. */
public final class LoadTest {
    public static void main(String[] args) {
        answers();
        signs();
        items();
        statements();
        expressions();
        limits();
        openLimit();
        locals();
        misfitNames();
        misfitTypes();
        misfitWithin();
        whatStays();
        oneObject();
        Due.done("LoadTest");
    }

    private static void fault(String marked) {
        int place = marked.indexOf('^');
        String text = marked.substring(0, place) + marked.substring(place + 1);
        Due.is("load of " + text, Due.load(new Keeper(), text), place);
    }

    private static void misfit(String marked) {
        int place = marked.indexOf('^');
        String text = marked.substring(0, place) + marked.substring(place + 1);
        Due.is("load of " + text, Due.load(new Keeper(), text), 5000 + place);
    }

    private static void fine(String text) {
        Due.is("load of " + text, Due.load(new Keeper(), text), SuiteKeeper.NONE);
    }

    private static void answers() {
        fine("test a{}");
        fine(" \n# all {\ntest#\na{ }# }");
        fault("^");
        fault("  # test a{}\n ^");
        fault("test a{^");
        fault("test a{} ^x");
        fault("test a{}^$");
        fault("test a{}^abcdefghi");
        fault("test a{}^1234567");
        fault("^$");
    }

    private static void signs() {
        fine("test abcdefgh{}");
        fault("test ^abcdefghi{}");
        fine("test a{let x=123456;let y=000009;}");
        fault("test a{let x=^1234567;}");
        fault("test ^A{}");
        fault("test a^_b{}");
        fault("test a{let x=1^$;}");
        fault("test a{let x=1^>2;}");
        fault("test a{let x=12^ab;}");
        fine("test a{let x=true;let y=x==!x;let z=1<=-2;}");
        fault("test a{let x=1^= =2;}");
        fault("test a{let x=1^! =2;}");
        fault("^testa{}");
        fine("test testa{}");
    }

    private static void items() {
        fault("global ^:int=1;");
        fault("global a^=1;");
        fault("global a:^x=1;");
        fault("global a:int^;");
        fault("global a:int=^b;");
        fault("global a:int=-^true;");
        fault("global a:int=-^-1;");
        fault("global a:int=1^+1;");
        fine("global a:int=-1;global b:bool=true;global c:bool=false;");
        fault("array a^(1);");
        fault("array a[^-1];");
        fault("array a[^0];");
        fault("array a[^33];");
        fine("array a[1];array b[32];");
        fault("array a[1]^");
        fault("func f()^{}");
        fault("func f():^proc{}");
        fault("func f(^:int):int{}");
        fault("func f(a^):int{}");
        fault("func f(a:int ^b:int):int{}");
        fault("func f(a:int,^):int{}");
        fault("proc p()^:int{}");
        fault("proc p^{}");
        fault("test t^(){}");
        fault("test ^while{}");
        fault("test ^int{}");
        fault("test a{}test ^a{}");
        fault("global a:int=1;array ^a[1];");
        fault("func a():int{}proc ^a(){}");
    }

    private static void statements() {
        fault("test a{^1;}");
        fault("test a{x^;}");
        fault("test a{x ^1;}");
        fault("test a{x=1^}");
        fault("test a{x[1]^;}");
        fault("test a{x(1)^=2;}");
        fault("test a{x(1,^);}");
        fault("test a{x(^,1);}");
        fault("test a{let ^true=1;}");
        fault("test a{let x^;}");
        fault("test a{let x^:int=1;}");
        fault("test a{if ^true{}}");
        fault("test a{if(true)^x=1;}");
        fault("test a{if(true){}else ^if(true){}}");
        fault("test a{^else{}}");
        fault("test a{while(^)}");
        fault("test a{^break;}");
        fault("test a{^continue;}");
        fault("test a{while(true){}^break;}");
        fine("test a{while(true){if(true){break;}else{continue;}}}");
        fault("test a{while(true){break^}}");
        fault("test a{^return;}");
        fault("func f():int{return^;}");
        fault("proc p(){return ^1;}");
        fine("func f():int{return 1;}proc p(){return;}");
        fault("test a{check^;}");
        fault("test a{check true^}");
        fault("test a{^{}}");
        fault("test a{^;}");
    }

    private static void expressions() {
        fault("test a{check 1<2^<3;}");
        fault("test a{check 1==2^!=3;}");
        fine("test a{check (1<2)==(2<3);check true|false&!true|true;}");
        fault("test a{check 1+^;}");
        fault("test a{check ^*1;}");
        fault("test a{check (1^;}");
        fault("test a{check ^);}");
        fault("test a{check x[1^;}");
        fault("test a{check x(1^;}");
        fault("test a{check 1 ^2;}");
        fault("test a{check ^let;}");
        fault("test a{check -^;}");
        fine("test a{let x=1-2*3/4%5+-6;check x<- -x;}");
    }

    private static String times(String part, int n) {
        StringBuilder all = new StringBuilder();
        for (int k = 0; k < n; k++) {
            all.append(part.replace('N', (char) ('a' + k)));
        }
        return all.toString();
    }

    private static void limits() {
        fine(times("global gN:int=1;", 10));
        fault(times("global gN:int=1;", 10) + "global ^h:int=1;");
        fine(times("array aN[1];", 4));
        fault(times("array aN[1];", 4) + "array ^b[1];");
        fine(times("func fN():int{}", 8) + times("proc pN(){}", 8));
        fault(times("func fN():int{}", 8) + times("proc pN(){}", 8) + "proc ^q(){}");
        fault(times("func fN():int{}", 16) + "func ^q():int{}");
        fine(times("test tN{}", 12));
        fault(times("test tN{}", 12) + "test ^u{}");
        fine(times("global gN:int=1;", 10) + times("array aN[1];", 4) + times("proc pN(){}", 16)
                + times("test tN{}", 12));
        fault(times("global gN:int=1;", 10) + times("array aN[1];", 4) + times("proc pN(){}", 16)
                + times("test tN{}", 12) + "test ^x{}");
        fine("proc p(a:int,b:int,c:bool,d:int){}");
        fault("proc p(a:int,b:int,c:bool,d:int,^e:int){}");
    }

    private static void openLimit() {
        fine("test a{let x=" + times("(", 11) + "1" + times(")", 11) + ";}");
        fault("test a{let x=" + times("(", 11) + "^(1" + times(")", 12) + ";}");
        fine("test a{let x=" + times("-", 11) + "1;}");
        fault("test a{let x=" + times("-", 11) + "^-1;}");
        fine("test a{let x=" + times("!", 11) + "true;let y=" + times("!", 11) + "true;}");
        fault("test a{let x=" + times("!", 11) + "^!true;}");
        fine("test a{let x=" + times("-", 10) + "1-(1);}");
        fault("test a{let x=" + times("-", 11) + "^(1);}");
        fine("array b[1];test a{let x=" + times("b[", 11) + "0" + times("]", 11) + ";}");
        fault("array b[1];test a{let x=" + times("b[", 11) + "b^[0" + times("]", 12) + ";}");
        fine("test a" + times("{if(true)", 6) + "{}" + times("}", 6));
        fine("test a" + times("{if(true)", 11) + "{}" + times("}", 11));
        fault("test a" + times("{if(true)", 11) + "{if^(true){}" + times("}", 12));
        fault("test a" + times("{while(true)", 11) + "{b^[0]=1;}" + times("}", 11));
        fault("test a" + times("{while(true)", 11) + "{f^();}" + times("}", 11));
        fault("test a" + times("{while(true)", 11) + "{let x=^-1;}" + times("}", 11));
        fine("test a" + times("{while(true)", 11) + "{let x=1-1;}" + times("}", 11));
    }

    private static void locals() {
        fine("test a{" + times("let xN=1;", 10) + "}");
        fault("test a{" + times("let xN=1;", 10) + "let ^y=1;}");
        fault("proc p(a:int,b:int){" + times("let xN=1;", 8) + "let ^y=1;}");
        fault("test a{let x=1;let ^x=2;}");
        fault("proc p(x:int,^x:int){}");
        fault("proc p(x:int){let ^x=2;}");
        fault("test a{if(true){let x=1;}let ^x=2;}");
        fault("test a{let ^a=1;}");
        fault("proc p(^p:int){}");
        fault("global g:int=1;test a{let ^g=1;}");
        fault("test b{}proc p(^b:int){}");
        fine("test a{let g=true;check g;}global g:int=1;test b{check g==1;}");
        fine("test a{let x=1;}test b{let x=true;}");
        fine("test a{let g=g+1;check g==2;}global g:int=1;");
        fine("test a{if(true){let x=1;}check x==1;}");
        fine("test a{let f=f(1);let b=b[f];}func f(x:int):int{}array b[2];");
    }

    private static void misfitNames() {
        misfit("test a{^x=1;}");
        misfit("test a{let x=^x;}");
        misfit("test a{check ^x;let x=true;}");
        misfit("test a{^x=1;let x=2;}");
        misfit("array b[1];test a{^b=1;}");
        misfit("array b[1];test a{let x=^b;}");
        misfit("test a{let x=^a;}");
        misfit("global g:int=1;test a{^g[0]=1;}");
        misfit("global g:int=1;test a{let x=^g[0];}");
        misfit("test a{let x=1;let y=^x[0];}");
        misfit("test a{let x=1;^x(1);}");
        misfit("test a{^a();}");
        misfit("test a{^f(1);}proc f(){}");
        misfit("test a{^f(1,2);}proc f(x:int){}");
        misfit("test a{let x=^f();}func f(x:int):int{}");
        misfit("test a{^f();}func f():int{}");
        misfit("test a{let x=^f();}proc f(){}");
        fine("test a{let x=f();g();}func f():int{}proc g(){}");
        misfit("global a:int=1;test b{^y=1;}test c{x=1;}");
    }

    private static void misfitTypes() {
        misfit("global a:int=^true;");
        misfit("global a:bool=^1;");
        misfit("global a:bool=^-1;");
        misfit("array b[1];test a{b[^true]=1;}");
        misfit("array b[1];test a{b[0]=^true;}");
        misfit("array b[1];test a{let x=b[^(true)];}");
        misfit("test a{let x=^true+1;}");
        misfit("test a{let x=1-^true;}");
        misfit("test a{let x=1*2*^true;}");
        misfit("test a{let x=^true/2;}");
        misfit("test a{let x=1%^false;}");
        misfit("test a{let x=^true<2;}");
        misfit("test a{let x=1<=^(1<2);}");
        misfit("test a{let x=-^true;}");
        misfit("test a{let x=!^1;}");
        misfit("test a{let x=!^(1+2);}");
        misfit("test a{let x=^1+2|true;}");
        misfit("test a{let x=true&^1;}");
        misfit("test a{let x=^(1)&true;}");
        misfit("test a{if(^1){}}");
        misfit("test a{while(^1+1){}}");
        misfit("test a{check ^(1);}");
        misfit("test a{let x=1==^true;}");
        misfit("test a{let x=true!=^1;}");
        fine("test a{let x=true!=false;let y=1==2;}");
        misfit("global g:int=1;test a{g=^true;}");
        misfit("test a{let x=1;x=^1<2;}");
        misfit("func f(x:bool):int{x=^1;return 1;}");
        misfit("test a{let x=f(true,^true);}func f(x:bool,y:int):int{}");
        misfit("test a{p(^1<2);}proc p(x:int){}");
        misfit("func f():int{return ^true;}");
        misfit("func f():bool{return ^1;}");
        misfit("test a{check ^f();}func f():int{}");
        misfit("array b[2];test a{check ^b[1];}");
        misfit("test a{let x=1;let y=true;check y==^x;}");
    }

    private static void misfitWithin() {
        misfit("test a{check 1+^true;}");
        misfit("test a{check (1+^x);}");
        misfit("test a{check -(!^1);}");
        misfit("test a{check 1+^p();}proc p(){}");
        misfit("test a{let x=f(^true);}func f(x:int):int{}");
        misfit("test a{check f(^true);}func f(x:int):int{}");
        misfit("array b[1];test a{check b[^true];}");
        misfit("test a{check 1+2+^true;}");
        misfit("test a{check 1==^true|1;}");
        misfit("test a{let x=^y;check x;x=1;x=true;}");
        misfit("test a{check (^1|true)==1;}");
        misfit("test a{p(^x);q=1;}proc p(y:int){}");
    }

    /** What one text leaves behind means nothing to the next one on the same object. */
    private static void oneObject() {
        Keeper x = new Keeper();
        Due.is("a fault with ten open", Due.load(x, "test a{let x=" + times("(", 9)), 22);
        Due.is("twelve are open", Due.load(x, "test a{let x=" + times("(", 11) + "1" + times(")", 11) + ";}"), -1);
        Due.is("a fault in a loop", Due.load(x, "test a{while(true){let b=1;"), 27);
        Due.is("no loop", Due.load(x, "test a{break;}"), 7);
        Due.is("no local", Due.load(x, "test a{b=1;}"), 5007);
        Due.is("no item", Due.load(x, "global g:int=1;test a{x=1;}"), 5022);
        Due.is("no global", Due.load(x, "test a{g=1;}"), 5007);
        Due.is("a first misfit, and a lesser place", Due.load(x, "test a{g=1;}"), 5007);
        String sum = times("+1", 300).replace("N", "");
        for (int n = 0; n < 2; n++) {
            Due.is("a long text", Due.load(x, "test a{let x=" + n + sum + ";}"), -1);
            Due.is("its number", x.code(3, 0, 7), n);
            Due.is("its last byte", x.code(3, 0, 6 + 5 + 6 * 300 + 2), 13);
            Due.is("behind it", x.code(3, 0, 6 + 5 + 6 * 300 + 4), SuiteKeeper.NONE);
        }
    }

    private static void whatStays() {
        Keeper x = Due.loaded("global g:int=1;test a{check g==1;}test b{}");
        x.run(1, 100);
        x.trace(0);
        x.step(1);
        Due.is("a fault", Due.load(x, "test"), 4);
        Due.is("a misfit", Due.load(x, "test a{check 1;}"), 5013);
        Due.is("the text is empty", x.put(0), 0);
        Due.is("the revision's number", x.about(4), 1);
        Due.is("its tests", x.about(3), 2);
        Due.is("its code", x.code(0, 0, 2), 1);
        Due.is("the trace goes on", x.traced(6), 1);
        Due.is("the slots stay", x.slot(1, 0), 1);
        Due.is("no revision ahead", x.change(0, 0), SuiteKeeper.NONE);
        Due.reload(x, "test a{}");
        Due.is("the next number", x.about(4), 2);
        Due.fails("no trace", IllegalStateException.class, () -> x.traced(0));
        Due.fails("no slots", IllegalStateException.class, () -> x.slot(0, 0));
        Due.is("a load without a text", x.load(), 0);
        Due.is("the number stays", x.about(4), 2);
    }
}
