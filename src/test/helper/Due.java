import java.util.ArrayList;
import java.util.List;

/** What all tests share: texts are put in, answers are compared with those that are due. */
final class Due {
    private static int wrong = 0;

    private Due() {
    }

    static void is(String call, long got, long want) {
        if (got != want) {
            wrong++;
            System.out.println(call + " answered " + got + ", due is " + want);
        }
    }

    static void is(String call, boolean got, boolean want) {
        is(call, got ? 1 : 0, want ? 1 : 0);
    }

    static void is(String call, String got, String want) {
        if (!got.equals(want)) {
            wrong++;
            System.out.println(call + " answered\n" + got + "\ndue is\n" + want);
        }
    }

    /** Exactly that exception, and one that the class itself threw. */
    static void fails(String call, Class<? extends RuntimeException> want, Runnable work) {
        String got = "nothing";
        try {
            work.run();
        } catch (RuntimeException e) {
            got = e.getClass().getName();
        }
        if (!got.equals(want.getName())) {
            wrong++;
            System.out.println(call + " threw " + got + ", due is " + want.getName());
        }
    }

    static void put(Keeper keeper, String text) {
        for (int k = 0; k < text.length(); k += 4) {
            int signs = 0;
            for (int n = 0; n < 4 && k + n < text.length(); n++) {
                signs |= text.charAt(k + n) << (8 * n);
            }
            keeper.put(signs);
        }
    }

    static int load(Keeper keeper, String text) {
        put(keeper, text);
        return keeper.load();
    }

    static Keeper loaded(String text) {
        Keeper keeper = new Keeper();
        is("load of " + text, load(keeper, text), SuiteKeeper.NONE);
        return keeper;
    }

    /** As above, for what can't be come to with 512 calls. */
    static Keeper loadedBeyond(String text) {
        Keeper keeper = Keeper.beyond();
        is("load of " + text, load(keeper, text), SuiteKeeper.NONE);
        return keeper;
    }

    static void reload(Keeper keeper, String text) {
        is("load of " + text, load(keeper, text), SuiteKeeper.NONE);
    }

    /** The bytes of an item, with blanks between them. */
    static String bytes(Keeper keeper, int kind, int item) {
        StringBuilder all = new StringBuilder();
        for (int k = 0; keeper.code(kind, item, k) != SuiteKeeper.NONE; k++) {
            all.append(k == 0 ? "" : " ").append(keeper.code(kind, item, k));
        }
        return all.toString();
    }

    static String listing(Keeper keeper, int kind, int item) {
        StringBuilder all = new StringBuilder();
        for (int k = 0; keeper.listing(kind, item, k) != SuiteKeeper.NONE; k++) {
            all.append((char) keeper.listing(kind, item, k));
        }
        return all.toString();
    }

    /** The log of a half as the document tells how to read it. */
    static List<Integer> log(Keeper keeper, int half) {
        List<Integer> log = new ArrayList<>();
        int head = half * 8192;
        for (int block = 1; block < 128; block++) {
            int from = head + 64 * block;
            int held = keeper.disk(from + 2);
            if (keeper.disk(from) != keeper.disk(head) || keeper.disk(from + 1) != keeper.disk(head + 1)) {
                break;
            }
            for (int k = 0; k < held && held <= 61; k++) {
                log.add(keeper.disk(from + 3 + k));
            }
            if (held != 61) {
                break;
            }
        }
        return log;
    }

    /** A line for each entry of the half's log: its name and its other bytes. */
    static String entries(Keeper keeper, int half) {
        List<Integer> log = log(keeper, half);
        StringBuilder all = new StringBuilder();
        int at = 0;
        while (at + 2 <= log.size()) {
            int length = log.get(at) + 256 * log.get(at + 1);
            if (at + 2 + length > log.size()) {
                return all.append("broken\n").toString();
            }
            int kind = log.get(at + 2);
            int letters = kind == 1 ? at + 5 : at + 3;
            all.append(kind == 1 ? "item " + (log.get(at + 3) + 256 * log.get(at + 4)) : "record").append(' ');
            for (int k = 1; k <= log.get(letters); k++) {
                all.append((char) (int) log.get(letters + k));
            }
            for (int k = letters + log.get(letters) + 1; k < at + 2 + length; k++) {
                all.append(' ').append(log.get(k));
            }
            all.append('\n');
            at += 2 + length;
        }
        return all.toString();
    }

    static void done(String test) {
        System.out.println(test + ": " + (wrong == 0 ? "all as due" : wrong + " not as due"));
        if (wrong != 0) {
            System.exit(1);
        }
    }
}
