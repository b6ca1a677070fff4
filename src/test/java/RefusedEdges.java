import java.util.ArrayList;
import java.util.List;
import java.util.NoSuchElementException;
import java.util.function.Consumer;

/** Promises 2 to 26: "A call that throws changes nothing.", for each exception of each call. */
public final class RefusedEdges {
    private static final String FIRST = "global g:int=1;global h:bool=true;array b[2];func f(n:int):int{check n<2;return n+g;}"
            + "proc p(){b[1]=f(1);}test s{p();}test t{check f(2)==3;}test u{}";
    private static final String SECOND = "global g:int=2;array b[2];func f(n:int):int{check n<2;return n+g;}"
            + "proc p(){b[1]=f(1);}test s{p();}test t{check f(2)==3;}test v{}test w{}";

    private static final class Refused {
        final String name;
        final Class<? extends RuntimeException> due;
        final Consumer<SuiteKeeper> work;

        Refused(String name, Class<? extends RuntimeException> due, Consumer<SuiteKeeper> work) {
            this.name = name;
            this.due = due;
            this.work = work;
        }
    }

    private static final List<Refused> CALLS = new ArrayList<>();

    public static void main(String[] args) {
        newObject();
        fullText();
        inTheMiddle();
        Due.done("RefusedEdges");
    }

    private static void add(String name, Class<? extends RuntimeException> due, Consumer<SuiteKeeper> work) {
        CALLS.add(new Refused(name, due, work));
    }

    /** Each call is made between the changes and all questions; its exception is looked at, too. */
    private static void compare(String when, Consumer<SuiteKeeper> changes, int count, State.Call... last) {
        for (Refused call : CALLS) {
            Consumer<SuiteKeeper> with = x -> {
                changes.accept(x);
                Due.fails(when + ": " + call.name, call.due, () -> call.work.accept(x));
            };
            State.same(when + " behind " + call.name, with, changes, count + 1, last);
        }
        CALLS.clear();
    }

    private static void put(SuiteKeeper x, String text) {
        for (int k = 0; k < text.length(); k += 4) {
            int signs = 0;
            for (int n = 0; n < 4 && k + n < text.length(); n++) {
                signs |= text.charAt(k + n) << (8 * n);
            }
            x.put(signs);
        }
    }

    /** Without a revision, and so without a trace. */
    private static void newObject() {
        Class<IllegalStateException> none = IllegalStateException.class;
        add("about(0)", none, x -> x.about(0));
        add("code(0, 0, 0)", none, x -> x.code(0, 0, 0));
        add("mark(0, 0)", none, x -> x.mark(0, 0));
        add("change(0, 0)", none, x -> x.change(0, 0));
        add("gone(0, 0)", none, x -> x.gone(0, 0));
        add("listing(2, 0, 0)", none, x -> x.listing(2, 0, 0));
        add("why(0)", none, x -> x.why(0));
        add("whyName(0, 0)", none, x -> x.whyName(0, 0));
        add("trace(0)", none, x -> x.trace(0));
        add("step(1)", none, x -> x.step(1));
        add("traced(0)", none, x -> x.traced(0));
        add("value(0)", none, x -> x.value(0));
        add("local(0)", none, x -> x.local(0));
        add("global(0)", none, x -> x.global(0));
        add("cell(0, 0)", none, x -> x.cell(0, 0));
        add("touches(0, 0)", none, x -> x.touches(0, 0));
        add("run(1, 1)", none, x -> x.run(1, 1));
        add("slot(0, 0)", none, x -> x.slot(0, 0));
        add("verdict(0)", none, x -> x.verdict(0));
        add("record(0, 0)", none, x -> x.record(0, 0));
        add("touched(0, 0, 0)", none, x -> x.touched(0, 0, 0));
        compare("a new object", x -> put(x, "test t{}"), 3, new State.Call("load()", SuiteKeeper::load),
                new State.Call("trace(0)", x -> {
                    x.trace(0);
                    return x.step(5);
                }), new State.Call("run(1, 9)", x -> x.run(1, 9)), new State.Call("about(9)", x -> x.about(9)));
    }

    /** Promise 2: "UnsupportedOperationException if there would be more than 1500." */
    private static void fullText() {
        add("put of two", UnsupportedOperationException.class, x -> x.put(0x2020));
        add("put(1)", IllegalArgumentException.class, x -> x.put(1));
        add("end(1500)", IllegalArgumentException.class, x -> x.end(1500));
        add("put of four", UnsupportedOperationException.class, x -> x.put(0x20202020));
        compare("1499 signs", x -> put(x, "test a{}" + " ".repeat(1490) + "$"), 376,
                new State.Call("put('$')", x -> x.put('$')), new State.Call("load()", SuiteKeeper::load));
    }

    /** A text half put, two revisions, a run that crashed, a trace in a call. */
    private static void changes(SuiteKeeper x) {
        put(x, FIRST);
        x.load();
        x.run(2, 100);
        put(x, SECOND);
        x.load();
        x.run(2, 2);
        x.trace(0);
        x.step(6);
        put(x, "test n{}$");
    }

    private static void inTheMiddle() {
        texts();
        revisions();
        traces();
        runs();
        int count = (FIRST.length() + SECOND.length()) / 4 + 20;
        compare("in the middle", RefusedEdges::changes, count, new State.Call("end(8)", x -> {
            x.end(8);
            return x.load();
        }), new State.Call("run(1, 100)", x -> x.run(1, 100)), new State.Call("about(7)", x -> x.about(7)));
    }

    private static void texts() {
        Class<IllegalArgumentException> wrong = IllegalArgumentException.class;
        add("put(9)", wrong, x -> x.put(9));
        add("put(a, b, c, 127)", wrong, x -> x.put('a' | 'b' << 8 | 'c' << 16 | 127 << 24));
        add("put(-1)", wrong, x -> x.put(-1));
        add("end(-1)", wrong, x -> x.end(-1));
        add("end(10)", wrong, x -> x.end(10));
        add("about(-1)", wrong, x -> x.about(-1));
        add("about(15)", wrong, x -> x.about(15));
    }

    private static void revisions() {
        Class<IndexOutOfBoundsException> none = IndexOutOfBoundsException.class;
        add("code(-1, 0, 0)", none, x -> x.code(-1, 0, 0));
        add("code(4, 0, 0)", none, x -> x.code(4, 0, 0));
        add("code(3, 4, 0)", none, x -> x.code(3, 4, 0));
        add("code(3, 0, -1)", none, x -> x.code(3, 0, -1));
        add("mark(2, 2)", none, x -> x.mark(2, 2));
        add("change(0, 1)", none, x -> x.change(0, 1));
        add("gone(2, 0)", none, x -> x.gone(2, 0));
        add("gone(0, -1)", none, x -> x.gone(0, -1));
        add("listing(1, 0, 0)", none, x -> x.listing(1, 0, 0));
        add("listing(2, 0, -1)", none, x -> x.listing(2, 0, -1));
        add("disk(-1)", none, x -> x.disk(-1));
        add("disk(16384)", none, x -> x.disk(16384));
        add("why(4)", none, x -> x.why(4));
        add("whyName(4, 0)", none, x -> x.whyName(4, 0));
        add("whyName(0, -1)", none, x -> x.whyName(0, -1));
        add("whyName(2, 0)", NoSuchElementException.class, x -> x.whyName(2, 0));
        add("verdict(4)", none, x -> x.verdict(4));
        add("record(4, 0)", none, x -> x.record(4, 0));
        add("record(3, 0)", NoSuchElementException.class, x -> x.record(3, 0));
        add("record(3, 9)", NoSuchElementException.class, x -> x.record(3, 9));
        add("touched(-1, 0, 0)", none, x -> x.touched(-1, 0, 0));
        add("touched(3, 0, 0)", NoSuchElementException.class, x -> x.touched(3, 0, 0));
    }

    private static void traces() {
        Class<IndexOutOfBoundsException> none = IndexOutOfBoundsException.class;
        add("trace(-1)", none, x -> x.trace(-1));
        add("trace(4)", none, x -> x.trace(4));
        add("step(-1)", IllegalArgumentException.class, x -> x.step(-1));
        add("step(100001)", IllegalArgumentException.class, x -> x.step(100001));
        add("traced(7)", IllegalArgumentException.class, x -> x.traced(7));
        add("value(-1)", none, x -> x.value(-1));
        add("value(99)", none, x -> x.value(99));
        add("local(1)", none, x -> x.local(1));
        add("global(1)", none, x -> x.global(1));
        add("cell(0, 2)", none, x -> x.cell(0, 2));
        add("touches(3, 0)", none, x -> x.touches(3, 0));
    }

    private static void runs() {
        Class<IllegalArgumentException> wrong = IllegalArgumentException.class;
        add("run(0, 9)", wrong, x -> x.run(0, 9));
        add("run(65, 9)", wrong, x -> x.run(65, 9));
        add("run(1, -1)", wrong, x -> x.run(1, -1));
        add("slot(9, 0)", IndexOutOfBoundsException.class, x -> x.slot(9, 0));
        add("slot(0, 5)", wrong, x -> x.slot(0, 5));
        add("record(0, 6)", wrong, x -> x.record(0, 6));
        add("touched(0, 4, 0)", wrong, x -> x.touched(0, 4, 0));
        add("touched(0, 0, 1)", wrong, x -> x.touched(0, 0, 1));
    }
}
