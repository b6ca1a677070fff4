import java.util.ArrayList;
import java.util.List;
import java.util.function.Consumer;

/**
 * A SuiteKeeper of which no object gets more than 512 calls, as what later calls answer is free: when
 * one has had them, the calls that changed it are made again on a new one, which is asked from then on.
 */
final class Keeper {
    static final int MOST_CALLS = 512;

    private final List<Consumer<SuiteKeeper>> changes = new ArrayList<>();
    private boolean limited;
    private SuiteKeeper keeper = new SuiteKeeper();
    private int calls;

    Keeper() {
        this(true);
    }

    private Keeper(boolean limited) {
        this.limited = limited;
    }

    /** One object for however many calls: some sentences can't be come to with 512. */
    static Keeper beyond() {
        return new Keeper(false);
    }

    /** How many calls the object that is asked now has had. */
    int calls() {
        return calls;
    }

    private SuiteKeeper next() {
        if (limited && calls >= MOST_CALLS) {
            keeper = new SuiteKeeper();
            for (Consumer<SuiteKeeper> change : changes) {
                change.accept(keeper);
            }
            calls = changes.size();
            limited = calls < MOST_CALLS;
            Due.is("calls that change one object are below 512", limited, true);
        }
        calls++;
        return keeper;
    }

    int put(int signs) {
        int answer = next().put(signs);
        changes.add(x -> x.put(signs));
        return answer;
    }

    void end(int n) {
        next().end(n);
        changes.add(x -> x.end(n));
    }

    int load() {
        int answer = next().load();
        changes.add(SuiteKeeper::load);
        return answer;
    }

    void trace(int test) {
        next().trace(test);
        changes.add(x -> x.trace(test));
    }

    int step(int n) {
        int answer = next().step(n);
        changes.add(x -> x.step(n));
        return answer;
    }

    int run(int workers, int most) {
        int answer = next().run(workers, most);
        changes.add(x -> x.run(workers, most));
        return answer;
    }

    int about(int what) {
        return next().about(what);
    }

    int code(int kind, int item, int k) {
        return next().code(kind, item, k);
    }

    int mark(int kind, int item) {
        return next().mark(kind, item);
    }

    int change(int kind, int item) {
        return next().change(kind, item);
    }

    int gone(int i, int k) {
        return next().gone(i, k);
    }

    int listing(int kind, int item, int i) {
        return next().listing(kind, item, i);
    }

    int why(int test) {
        return next().why(test);
    }

    int whyName(int test, int k) {
        return next().whyName(test, k);
    }

    int traced(int what) {
        return next().traced(what);
    }

    int value(int k) {
        return next().value(k);
    }

    int local(int k) {
        return next().local(k);
    }

    int global(int k) {
        return next().global(k);
    }

    int cell(int array, int k) {
        return next().cell(array, k);
    }

    boolean touches(int kind, int k) {
        return next().touches(kind, k);
    }

    int disk(int k) {
        return next().disk(k);
    }

    int slot(int i, int what) {
        return next().slot(i, what);
    }

    int verdict(int test) {
        return next().verdict(test);
    }

    int record(int test, int what) {
        return next().record(test, what);
    }

    boolean touched(int test, int kind, int k) {
        return next().touched(test, kind, k);
    }
}
