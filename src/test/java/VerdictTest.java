/** Promise 24: verdict. */
public final class VerdictTest {
    public static void main(String[] args) {
        String text = "array b[1];func f():int{return f();}test a{}test c{check false;}test d{let n=1/0;}"
                + "test e{while(true){}}test g{check f()==1;}test h{b[1]=1;}";
        Keeper x = Due.loaded(text);
        for (int test = 0; test < 6; test++) {
            Due.is("no record", x.verdict(test), SuiteKeeper.NONE);
        }
        Due.is("run", x.run(3, 1000), 6);
        for (int test = 0; test < 6; test++) {
            Due.is("verdict(" + test + ")", x.verdict(test), test);
        }
        Due.reload(x, text.replace("b[1];func", "b[2];func").replace("return f()", "return 2"));
        for (int test = 0; test < 6; test++) {
            Due.is("verdict(" + test + ")", x.verdict(test), test >= 4 ? SuiteKeeper.NONE : test);
        }
        Due.is("run", x.run(3, 1000), 2);
        Due.is("g has a check now", x.verdict(4), 1);
        Due.is("h has its cell now", x.verdict(5), 0);
        // a record that doesn't hold comes back with its revision
        Due.reload(x, "test a{check false;}");
        Due.is("others", x.verdict(0), SuiteKeeper.NONE);
        Due.reload(x, "test a{}");
        Due.is("the same", x.verdict(0), 0);
        Class<IndexOutOfBoundsException> none = IndexOutOfBoundsException.class;
        Due.fails("test 1", none, () -> x.verdict(1));
        Due.fails("test -1", none, () -> x.verdict(-1));
        Due.fails("no revision", IllegalStateException.class, () -> new Keeper().verdict(-1));
        Due.done("VerdictTest");
    }
}
