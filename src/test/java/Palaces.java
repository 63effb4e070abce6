/** Small palaces and short ways to work on them, for the tests. */
final class Palaces {
    private Palaces() {
    }

    static int bits(float f) {
        return Float.floatToIntBits(f);
    }

    static int type(SawnIce x, String text) {
        int n = 0;
        for (int i = 0; i < text.length(); i++) {
            n = x.append(text.charAt(i));
        }
        return n;
    }

    static int read(SawnIce x, String text) {
        type(x, text);
        return x.read();
    }

    /** Sets all hours of the day. */
    static void heatAll(SawnIce x, int temperature) {
        for (int hour = 0; hour < 24; hour++) {
            x.heat(hour, temperature);
        }
    }

    /** Lets one hour go by at this temperature; the answer is how many blocks are gone. */
    static int hour(SawnIce x, int temperature) {
        x.heat(x.account(0) % 24, temperature);
        return x.pass(1);
    }

    /** A new pond with ice of this thickness, all hours of the day at -5. */
    static SawnIce iceOf(int thickness) {
        SawnIce x = new SawnIce();
        while (x.account(1) != thickness) {
            int missing = thickness - x.account(1);
            int hour = x.account(0) % 24;
            hour(x, missing > 0 ? -5 * Math.min(6, missing) : 5 * Math.min(4, -missing));
            x.heat(hour, -5);
        }
        return x;
    }

    /** A new object at a clock. */
    static SawnIce atClock(int clock) {
        SawnIce x = new SawnIce();
        while (x.account(0) < clock) {
            x.pass(Math.min(48, clock - x.account(0)));
        }
        return x;
    }

    /** Slabs of 1 on one another, from the ground up to this height. */
    static void tower(SawnIce x, int column, int height) {
        for (int course = 0; course < height; course++) {
            put(x, 0, 1, column, course);
        }
    }

    /** Saws and lays a block; the answer is its number. */
    static int put(SawnIce x, int kind, int length, int column, int course) {
        int block = x.saw(kind, length, kind);
        x.lay(block, column, course);
        return block;
    }

    /** Two slabs of 4 with a gap of 1 between them (0 at 0 to 3, 1 at 5 to 8), and a slab of 6 over it (2 at 2 to 7). */
    static SawnIce gate() {
        SawnIce x = new SawnIce();
        put(x, 0, 4, 0, 0);
        put(x, 0, 4, 5, 0);
        put(x, 0, 6, 2, 1);
        return x;
    }

    static String signs(SawnIce x) {
        StringBuilder s = new StringBuilder();
        for (int block = 0; block < x.account(4); block++) {
            s.append(x.sign(block));
        }
        return s.toString();
    }

    /** The reason and the detail of the latest refusal, as "7: 4". */
    static String refusal(SawnIce x) {
        return x.refusal(false) + ": " + x.refusal(true);
    }

    /** All that changes can change, as far as it can be asked for. */
    static String all(SawnIce x) {
        StringBuilder s = new StringBuilder();
        for (int what = 0; what <= 12; what++) {
            s.append(x.account(what)).append(' ');
        }
        for (int block = 0; block < x.account(4); block++) {
            for (int what = 0; what <= 7; what++) {
                s.append(x.blockOf(block, what)).append(' ');
            }
            s.append(x.massBits(block, 0)).append(' ');
        }
        for (int cell = 0; cell < 96; cell++) {
            s.append(x.at(cell % 12, cell / 12)).append(' ');
        }
        for (int place = 0; place < 10; place++) {
            s.append(x.inRack(place / 5, place % 5)).append(' ');
        }
        return s.toString();
    }
}
