/** Promise 4, load: the edges of locals, and what names mean, from term 1. */
public final class LetEdges {
    private static final String[] ITEMS =
            {"global ^:int=1;", "array ^[1];", "func ^():int{}", "proc ^(){}", "test ^{}"};

    public static void main(String[] args) {
        atMostTen();
        allUnlike();
        itemsAhead();
        itemsBehind();
        meaning();
        Due.done("LetEdges");
    }

    /** Promise 4, term 1: "its parameters and the names of its lets, at most ten"; "a local too many (its name)". */
    private static void atMostTen() {
        for (int parameters = 0; parameters <= 4; parameters++) {
            String given = parameters == 0 ? "" : "pa:int" + Texts.times(",qN:bool", parameters - 1);
            String lets = Texts.times("let xN=1;", 10 - parameters);
            Texts.fine("proc p(" + given + "){" + lets + "}");
            Texts.fault("proc p(" + given + "){" + lets + "let ^y=1;}");
            Texts.fine("func p(" + given + "):int{" + lets + "}");
            Texts.fault("func p(" + given + "):int{if(true){" + lets + "}else{let ^y=1;}}");
        }
        Texts.fine("test t{" + Texts.times("let xN=1;", 10) + "}");
        Texts.fault("test t{" + Texts.times("let xN=1;", 10) + "let ^y=1;}");
        Texts.fault("test t{" + Texts.times("let xN=1;", 10) + "let ^xa=1;}");
        // each routine and test has ten of its own
        Texts.fine("test t{" + Texts.times("let xN=1;", 10) + "}proc p(xa:int){" + Texts.times("let yN=1;", 9)
                + "}test u{" + Texts.times("let xN=true;", 10) + "}");
        Keeper x = Due.loaded("test t{" + Texts.times("let xN=1;", 9) + "let y=7;y=8;}");
        Due.is("how many", x.code(3, 0, 3), 10);
        x.trace(0);
        x.step(100);
        Due.is("the last one", x.local(9), 8);
        Due.is("the one ahead of it", x.local(8), 1);
        Due.fails("no more", IndexOutOfBoundsException.class, () -> x.local(10));
    }

    /** Promise 4, term 1: "all unlike"; "a local that there is" is a fault. */
    private static void allUnlike() {
        Texts.fault("proc p(a:int,^a:int){}");
        Texts.fault("proc p(a:int,b:int,c:int,^a:bool){}");
        Texts.fault("proc p(a:int){let ^a=1;}");
        Texts.fault("func f(a:int,b:bool):int{let ^b=1;}");
        Texts.fault("test t{let a=1;let ^a=1;}");
        Texts.fault("test t{if(true){let a=1;}else{let ^a=1;}}");
        Texts.fault("test t{while(true){let a=1;}let ^a=1;}");
        Texts.fault("test t{if(true){let a=1;}if(true){if(true){let ^a=1;}}}");
        Texts.fine("test t{let a=1;}test u{let a=1;}proc p(a:int){}func f(a:bool):int{}");
        Texts.fine("test t{let a=1;let aa=1;let b=1;}");
    }

    /** Promise 4, term 1: "none an item's name that stands ahead in the text, its own item's among them". */
    private static void itemsAhead() {
        for (String item : ITEMS) {
            String ahead = item.replace("^", "same");
            Texts.fault(ahead + "test t{let ^same=1;}");
            Texts.fault(ahead + "proc p(^same:int){}");
            Texts.fault(ahead + "func f(a:int,^same:int):int{}");
            Texts.fault(ahead + "test u{}proc p(){if(true){let ^same=1;}}");
        }
        Texts.fault("test t{let ^t=1;}");
        Texts.fault("proc p(){let ^p=1;}");
        Texts.fault("proc p(^p:int){}");
        Texts.fault("func f(a:int,^f:int):int{}");
        Texts.fault("func f():int{let ^f=1;}");
    }

    /** Promise 4, term 1: "an item behind may be called as a local ahead". */
    private static void itemsBehind() {
        for (String item : ITEMS) {
            String behind = item.replace("^", "same");
            Texts.fine("test t{let same=1;}" + behind);
            Texts.fine("proc p(same:int){}" + behind);
            Texts.fine("func f(a:bool,same:bool):int{let b=same&a;}test u{}" + behind);
            // that it is an item then is told to those behind it alone
            Texts.fault("test t{let same=1;}" + behind + "test u{let ^same=1;}");
        }
    }

    /** Promise 4, term 1: "A name in it means the local, if that parameter or let stands ahead of it". */
    private static void meaning() {
        String global = "global g:bool=true;";
        Due.is("the global, then the local", Texts.verdict("test t{check g;let g=3;check g==3;}" + global), 0);
        // "in whatever block"
        Due.is("from another block", Texts.verdict("test t{if(!g){let g=3;}else{check g==0;}check g==0;}" + global), 0);
        Texts.misfit("test t{if(g){let g=3;}check ^g;}" + global);
        Texts.misfit("test t{while(g){let g=3;}g=^true;}" + global);
        // "(the let's own expression is ahead of it)"
        Due.is("the global in it", Texts.verdict("test t{let g=!g;check !g;}" + global), 0);
        Texts.misfit("test t{let x=^x;}");
        Texts.misfit("test t{let x=1+^x;let y=x;}");
        Texts.misfit("test t{^x=1;let x=1;}");
        // "otherwise a global of the text, wherever that stands"
        Due.is("a global ahead", Texts.verdict(global + "test t{check g;}"), 0);
        Due.is("a global behind", Texts.verdict("test t{check g;}" + global), 0);
        Due.is("set behind", Texts.verdict("test t{g=false;check g;}" + global), 1);
        Texts.misfit("test t{let x=1;}test u{check ^x;}");
        Texts.misfit("proc p(x:bool){}test u{check ^x;}");
        // "a name with [ behind it an array, with ( behind it a routine of the text"
        Due.is("each its own", Texts.verdict("test t{let b=b[0]+1;let f=f(b)+b;b[b]=f;check b[b]==8&b==1&f==8;p(b);let p=2;p(p);}"
                + "array b[2];func f(n:int):int{return n+6;}proc p(n:int){check n==1|n==2;}"), 0);
        Texts.misfit("test t{let x=1;let y=^x[0];}");
        Texts.misfit("test t{let x=1;^x[0]=1;}");
        Texts.misfit("test t{let x=1;^x();}");
        Texts.misfit("test t{let x=1;let y=^x();}");
    }
}
