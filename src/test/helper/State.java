import java.util.ArrayList;
import java.util.List;
import java.util.function.Consumer;
import java.util.function.ToIntFunction;

/** All that can be asked of an object, so that two objects can be compared by what they answer. */
final class State {
    /** A call, with what it is called in a message. */
    static final class Call {
        final String name;
        private final ToIntFunction<SuiteKeeper> work;

        Call(String name, ToIntFunction<SuiteKeeper> work) {
            this.name = name;
            this.work = work;
        }

        /** Its answer, or the name of the exception that it throws. */
        String answer(SuiteKeeper keeper) {
            try {
                return String.valueOf(work.applyAsInt(keeper));
            } catch (RuntimeException e) {
                return e.getClass().getName();
            }
        }
    }

    private final List<Call> calls = new ArrayList<>();

    private State() {
        revision();
        records();
        traces();
        disk();
    }

    private void add(String name, ToIntFunction<SuiteKeeper> work) {
        calls.add(new Call(name, work));
    }

    private void revision() {
        add("put(0)", x -> x.put(0));
        for (int k = 0; k <= 14; k++) {
            int what = k;
            add("about(" + what + ")", x -> x.about(what));
        }
        int[] most = {4, 3, 5, 5};
        for (int k = 0; k < 4; k++) {
            int kind = k;
            for (int n = 0; n < most[kind]; n++) {
                int item = n;
                add("mark(" + kind + ", " + item + ")", x -> x.mark(kind, item));
                add("change(" + kind + ", " + item + ")", x -> x.change(kind, item));
                add("code(" + kind + ", " + item + ", 5)", x -> x.code(kind, item, 5));
                add("listing(" + kind + ", " + item + ", 3)", x -> x.listing(kind, item, 3));
            }
        }
        for (int k = 0; k < 12; k++) {
            int i = k / 3;
            int letter = k % 3;
            add("gone(" + i + ", " + letter + ")", x -> x.gone(i, letter));
        }
    }

    private void records() {
        for (int k = 0; k < 5; k++) {
            int test = k;
            add("why(" + test + ")", x -> x.why(test));
            add("whyName(" + test + ", 0)", x -> x.whyName(test, 0));
            add("verdict(" + test + ")", x -> x.verdict(test));
            for (int n = 0; n < 6; n++) {
                int what = n;
                add("record(" + test + ", " + what + ")", x -> x.record(test, what));
                add("slot(" + test + ", " + what + ")", x -> x.slot(test, what));
            }
            for (int n = 0; n < 16; n++) {
                int kind = n / 4;
                int item = n % 4;
                add("touched(" + test + ", " + kind + ", " + item + ")", x -> x.touched(test, kind, item) ? 1 : 0);
            }
        }
    }

    private void traces() {
        for (int n = 0; n < 7; n++) {
            int k = n;
            add("traced(" + k + ")", x -> x.traced(k));
            add("value(" + k + ")", x -> x.value(k));
            add("local(" + k + ")", x -> x.local(k));
            add("global(" + k + ")", x -> x.global(k));
        }
        for (int n = 0; n < 16; n++) {
            int first = n / 4;
            int second = n % 4;
            add("cell(" + first + ", " + second + ")", x -> x.cell(first, second));
            add("touches(" + first + ", " + second + ")", x -> x.touches(first, second) ? 1 : 0);
        }
    }

    /** The blocks that the small texts of tests come to, and the first bytes of all. */
    private void disk() {
        for (int block = 0; block < 256; block++) {
            int bytes = block % 128 < 6 ? 64 : 1;
            for (int n = 0; n < bytes; n++) {
                int k = 64 * block + n;
                add("disk(" + k + ")", x -> x.disk(k));
            }
        }
    }

    /** Whether all answers behind both rows of changes are the same, and those of the calls that come last. */
    static void same(String when, Consumer<SuiteKeeper> one, Consumer<SuiteKeeper> other, int changes, Call... last) {
        List<Call> calls = new State().calls;
        int room = Keeper.MOST_CALLS - changes - last.length;
        Due.is(when + ": room for calls", room > 20, true);
        for (int from = 0; from < calls.size() && room > 20; from += room) {
            SuiteKeeper x = new SuiteKeeper();
            SuiteKeeper y = new SuiteKeeper();
            one.accept(x);
            other.accept(y);
            for (int k = from; k < Math.min(from + room, calls.size()); k++) {
                Due.is(when + ": " + calls.get(k).name, calls.get(k).answer(x), calls.get(k).answer(y));
            }
            for (Call call : last) {
                Due.is(when + ": then " + call.name, call.answer(x), call.answer(y));
            }
        }
    }
}
