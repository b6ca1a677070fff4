/** Texts that are loaded on an object of their own; a ^ stands ahead of the place that is due. */
final class Texts {
    private Texts() {
    }

    static void fine(String text) {
        answers(text, SuiteKeeper.NONE);
    }

    static void fault(String marked) {
        answers(unmarked(marked), marked.indexOf('^'));
    }

    static void misfit(String marked) {
        answers(unmarked(marked), 5000 + marked.indexOf('^'));
    }

    static void answers(String text, int want) {
        Due.is("load of " + text, Due.load(new Keeper(), text), want);
    }

    private static String unmarked(String marked) {
        int place = marked.indexOf('^');
        return marked.substring(0, place) + marked.substring(place + 1);
    }

    /** The part n times, with a, b, c .. for its N. */
    static String times(String part, int n) {
        StringBuilder all = new StringBuilder();
        for (int k = 0; k < n; k++) {
            all.append(part.replace('N', (char) ('a' + k)));
        }
        return all.toString();
    }

    /** All that there may be: 10 globals, 4 arrays, 16 routines, 12 tests. */
    static String fullOfItems() {
        return times("global gN:int=1;", 10) + times("array aN[1];", 4) + times("proc pN(){}", 16)
                + times("test tN{}", 12);
    }

    /** How the only test of the text, or the first one, ends. */
    static int verdict(String text) {
        Keeper x = Due.loaded(text);
        x.trace(0);
        for (int n = 0; n < 100 && x.traced(0) == SuiteKeeper.NONE; n++) {
            x.step(100000);
        }
        return x.traced(0);
    }
}
