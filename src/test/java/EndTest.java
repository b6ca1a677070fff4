/** Promise 3: end. */
public final class EndTest {
    public static void main(String[] args) {
        Keeper x = new Keeper();
        Class<IllegalArgumentException> wrong = IllegalArgumentException.class;
        x.end(0);
        Due.fails("end(1)", wrong, () -> x.end(1));
        Due.put(x, "test a{}$$$");
        Due.fails("end(12)", wrong, () -> x.end(12));
        Due.fails("end(-1)", wrong, () -> x.end(-1));
        Due.fails("end(least)", wrong, () -> x.end(Integer.MIN_VALUE));
        Due.fails("end(greatest)", wrong, () -> x.end(Integer.MAX_VALUE));
        x.end(11);
        Due.is("all are there", x.put(0), 11);
        x.end(8);
        Due.is("eight are there", x.put(0), 8);
        Due.fails("end(9)", wrong, () -> x.end(9));
        Due.is("load", x.load(), SuiteKeeper.NONE);
        Due.fails("end(1) behind load", wrong, () -> x.end(1));
        Due.put(x, "test a{}");
        x.end(6);
        Due.put(x, "b{}");
        Due.is("load of test ab{}", x.load(), SuiteKeeper.NONE);
        Due.is("a is gone", x.gone(0, 0), 'a');
        Due.put(x, "test a{}");
        x.end(0);
        Due.is("load of nothing", x.load(), 0);
        Due.done("EndTest");
    }
}
