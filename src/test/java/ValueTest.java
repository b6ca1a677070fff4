/** Promise 16: value, and what each instruction leaves on top. */
public final class ValueTest {
    public static void main(String[] args) {
        Keeper x = Due.loaded("func f(a:int):int{return a*(a+1);}test t{let n=10-f(3)*2;}");
        Class<IndexOutOfBoundsException> none = IndexOutOfBoundsException.class;
        Due.fails("no trace", IllegalStateException.class, () -> x.value(-1));
        x.trace(0);
        Due.fails("none at first", none, () -> x.value(0));
        x.step(2);
        Due.is("3 on top", x.value(0), 3);
        Due.is("10 below", x.value(1), 10);
        Due.fails("2", none, () -> x.value(2));
        Due.fails("-1", none, () -> x.value(-1));
        x.step(1);
        Due.fails("those of the WORK alone", none, () -> x.value(0));
        x.step(3);
        Due.is("1", x.value(0), 1);
        Due.is("a", x.value(1), 3);
        Due.is("a", x.value(2), 3);
        Due.fails("3", none, () -> x.value(3));
        x.step(3);
        Due.is("what f gave", x.value(0), 12);
        Due.is("10 still", x.value(1), 10);
        sums();
        deepest();
        Due.fails("no revision", IllegalStateException.class, () -> new Keeper().value(0));
        Due.done("ValueTest");
    }

    private static void gives(String expression, int want) {
        Keeper x = Due.loaded("global big:int=999999;global min:int=-1;array b[3];test t{let n=" + expression + ";}");
        x.trace(0);
        x.step(100000);
        Due.is(expression, x.local(0), want);
    }

    /** Eleven calls within one another, and twenty of these open: no value is lost. */
    private static void deepest() {
        StringBuilder text = new StringBuilder("func g(a:bool,b:bool,c:bool,d:bool):int{return 2+3*g(true,false,true,");
        for (int k = 0; k < 10; k++) {
            text.append("false|true&4==5+6*g(true,false,true,");
        }
        text.append("true");
        for (int k = 0; k < 11; k++) {
            text.append(')');
        }
        Keeper x = Due.loaded(text + ";}test t{let n=g(true,true,true,true);}");
        for (int n = 0; n < 3; n++) {
            x.trace(0);
            x.step(100000);
        }
        Due.is("too many calls", x.traced(0), 4);
        Due.is("calls open", x.traced(2), 20);
        int[] round = {6, 5, 4, 1, 0, 1, 0, 1};
        Due.is("values", x.traced(5), 4 + 8 * 10 + 2);
        Due.is("the last parameter", x.value(0), 1);
        for (int k = 0; k < 80; k++) {
            int due = k < 3 ? 1 - k % 2 : round[(k - 3) % 8];
            Due.is("value(" + (k + 1) + ")", x.value(k + 1), due);
        }
    }

    private static void sums() {
        gives("7+-3", 4);
        gives("3-7", -4);
        gives("big*big", 999999 * 999999);
        gives("-7/2", -3);
        gives("7/-2", -3);
        gives("-7%2", -1);
        gives("7%-2", 1);
        gives("big*2147+big+big", 2149 * 999999);
        gives("(-1-(65536*32767+65535))/-1", Integer.MIN_VALUE);
        gives("(-1-(65536*32767+65535))%-1", 0);
        gives("-(-1-(65536*32767+65535))", Integer.MIN_VALUE);
        gives("8-4-2", 2);
        gives("100/5/2*3%4", 2);
        gives("true", 1);
        gives("false", 0);
        gives("!true", 0);
        gives("!false", 1);
        gives("true|false", 1);
        gives("false|false", 0);
        gives("true&false", 0);
        gives("true&true", 1);
        gives("1==1", 1);
        gives("1==2", 0);
        gives("true!=false", 1);
        gives("1!=1", 0);
        gives("-1<0", 1);
        gives("0<0", 0);
        gives("0<=0", 1);
        gives("1<=0", 0);
        gives("b[2]", 0);
        gives("min", -1);
        gives("2+3*4", 14);
        gives("(2+3)*4", 20);
        gives("1<2&2<1|true", 1);
    }
}
