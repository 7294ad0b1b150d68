/** Compares answers with what is due, and ends the program with 1 if one was wrong. */
final class Check {
    static final long LEAST_LONG_BAD = Long.MIN_VALUE + 2;

    private final String name;
    private int wrong = 0;
    private int asked = 0;

    Check(String name) {
        this.name = name;
    }

    void due(String call, long got, long want) {
        asked++;
        if (got != want) {
            wrong++;
            System.out.println(name + ": " + call + " answered " + got + ", due is " + want);
        }
    }

    void holds(String what, boolean is) {
        asked++;
        if (!is) {
            wrong++;
            System.out.println(name + ": not so: " + what);
        }
    }

    void end() {
        if (asked == 0) {
            System.out.println(name + ": nothing was asked");
        } else {
            System.out.println(name + ": " + asked + " answers, " + wrong + " wrong");
        }
        if (wrong != 0 || asked == 0) {
            System.exit(1);
        }
    }

    static SmallFirst house(String laws, String dust) {
        SmallFirst x = new SmallFirst();
        type(x, 0, laws);
        type(x, 1, dust);
        return x;
    }

    static void type(SmallFirst x, int text, String bytes) {
        for (int i = 0; i < bytes.length(); i++) {
            x.type(text, bytes.charAt(i));
        }
    }

    /** Bits of letters, of either kind. */
    static int bits(String letters) {
        int bits = 0;
        for (char c : letters.toLowerCase().toCharArray()) {
            bits |= 1 << (c - 'a');
        }
        return bits;
    }
}
