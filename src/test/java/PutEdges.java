/** Promise 2, put. */
public final class PutEdges {
    public static void main(String[] args) {
        fourSigns();
        leftOut();
        eachSign();
        full();
        fullWithLess();
        refusedAtTheEnd();
        Due.done("PutEdges");
    }

    private static int four(int first, int second, int third, int fourth) {
        return first | second << 8 | third << 16 | fourth << 24;
    }

    /** Promise 2: "Four more signs, the lowest byte first .. : how many there are." */
    private static void fourSigns() {
        Keeper x = new Keeper();
        Due.is("four", x.put(four('t', 'e', 's', 't')), 4);
        Due.is("eight", x.put(four(' ', 'a', 'b', 'c')), 8);
        Due.is("ten", x.put(four('{', '}', 0, 0)), 10);
        Due.is("load", x.load(), SuiteKeeper.NONE);
        Due.reload(x, "test n{}");
        Due.is("a", x.gone(0, 0), 'a');
        Due.is("b", x.gone(0, 1), 'b');
        Due.is("c", x.gone(0, 2), 'c');
    }

    /** Promise 2: "(0 is left out)", wherever it stands. */
    private static void leftOut() {
        String text = "test a{}";
        for (int zeros = 0; zeros < 16; zeros++) {
            Keeper x = new Keeper();
            int many = 0;
            for (int n = 0; many < text.length() && n < 20; n++) {
                int signs = 0;
                for (int k = 0; k < 4 && many < text.length(); k++) {
                    // the byte is 0 where the number of this round has a bit
                    if ((((zeros + n) >> k) & 1) == 0) {
                        signs |= text.charAt(many) << (8 * k);
                        many++;
                    }
                }
                Due.is("how many", x.put(signs), many);
            }
            Due.is("load", x.load(), SuiteKeeper.NONE);
        }
        Keeper y = new Keeper();
        Due.is("nothing", y.put(0), 0);
        Due.is("nothing again", y.put(0), 0);
    }

    /** Promise 2: "IllegalArgumentException if a byte is none of those": 32 .. 126 and line ends (10), and 0. */
    private static void eachSign() {
        for (int place = 0; place < 4; place++) {
            Keeper x = new Keeper();
            int many = 0;
            for (int sign = 0; sign < 256; sign++) {
                int signs = sign << (8 * place);
                boolean isSign = sign == 10 || (sign >= 32 && sign <= 126);
                if (isSign || sign == 0) {
                    many += isSign ? 1 : 0;
                    Due.is("put(" + sign + ") at " + place, x.put(signs), many);
                } else {
                    Due.fails("put(" + sign + ") at " + place, IllegalArgumentException.class, () -> x.put(signs));
                }
            }
            Due.is("those that are signs", many, 96);
        }
        Keeper y = new Keeper();
        Due.fails("a good one and a bad one", IllegalArgumentException.class, () -> y.put(four('a', 'b', 'c', 127)));
        Due.fails("a bad one and good ones", IllegalArgumentException.class, () -> y.put(four(31, 'b', 'c', 'd')));
        Due.fails("all bits", IllegalArgumentException.class, () -> y.put(-1));
        Due.fails("the sign bit", IllegalArgumentException.class, () -> y.put(Integer.MIN_VALUE));
        Due.is("nothing was put", y.put(0), 0);
    }

    private static Keeper blanks(int many) {
        Keeper x = new Keeper();
        for (int n = 4; n <= many; n += 4) {
            Due.is("put", x.put(four(' ', ' ', ' ', ' ')), n);
        }
        for (int n = many / 4 * 4 + 1; n <= many; n++) {
            Due.is("put", x.put(' '), n);
        }
        return x;
    }

    /** Promise 2: "UnsupportedOperationException if there would be more than 1500". */
    private static void full() {
        Class<UnsupportedOperationException> full = UnsupportedOperationException.class;
        Keeper x = blanks(1496);
        Due.is("exactly", x.put(four(' ', ' ', ' ', 'x')), 1500);
        Due.fails("one more", full, () -> x.put(' '));
        Due.fails("one more, in the highest byte", full, () -> x.put(four(0, 0, 0, ' ')));
        Due.fails("four more", full, () -> x.put(four(' ', ' ', ' ', ' ')));
        Due.is("none more", x.put(0), 1500);
        Due.is("the last sign is there", x.load(), 1499);
        Due.is("empty then", x.put('a'), 1);
    }

    /** Promise 2: what is left out doesn't count, what has no room is refused as a whole. */
    private static void fullWithLess() {
        Class<UnsupportedOperationException> full = UnsupportedOperationException.class;
        for (int many = 1497; many <= 1500; many++) {
            int room = 1500 - many;
            Keeper x = blanks(many);
            for (int signs = room + 1; signs <= 4; signs++) {
                int put = four(' ', ' ', ' ', ' ') >>> (8 * (4 - signs));
                Due.fails(signs + " more than " + many, full, () -> x.put(put));
            }
            Due.is("nothing of them was put", x.put(0), many);
            Due.is("as many as have room", x.put(room == 0 ? 0 : four(' ', ' ', ' ', ' ') >>> (8 * (4 - room))), 1500);
        }
        Keeper y = blanks(1499);
        Due.is("one sign between zeros", y.put(four(0, 0, '$', 0)), 1500);
        Due.is("the last sign", y.load(), 1499);
    }

    /** Promise 2: of two reasons the one that its face names first. */
    private static void refusedAtTheEnd() {
        Keeper x = blanks(1500);
        Due.fails("no sign, and too many", IllegalArgumentException.class, () -> x.put(four(' ', ' ', ' ', 1)));
        Due.fails("no sign, and too many", IllegalArgumentException.class, () -> x.put(127));
        x.end(1499);
        Due.is("room again", x.put('$'), 1500);
        Due.is("load", x.load(), 1499);
    }
}
