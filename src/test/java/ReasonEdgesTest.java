import java.util.NoSuchElementException;

/** The reasons for what is refused: just refused and just not, each detail, and which reason goes first. */
public final class ReasonEdgesTest {
    private static final Class<UnsupportedOperationException> REFUSED = UnsupportedOperationException.class;
    private static final Class<NoSuchElementException> NONE = NoSuchElementException.class;

    public static void main(String[] args) {
        fortyBlocks();
        thinIce();
        lengthLeft();
        lengthsOfGoneBlocks();
        fullRack();
        otherKind();
        orderOfSawing();
        notInRack();
        sticksOut();
        filled();
        notSupported();
        orderOfLaying();
        kept();
        Check.end("ReasonEdgesTest");
    }

    private static void refused(String what, SawnIce x, Check.Call call, String due) {
        Check.fails(what, REFUSED, call);
        Check.is("reason and detail: " + what, Palaces.refusal(x), due);
    }

    /** So many slabs of this length were sawn and taken. */
    private static SawnIce sawn(int number, int length) {
        SawnIce x = new SawnIce();
        for (int i = 0; i < number; i++) {
            x.take(x.saw(0, length, 0));
        }
        return x;
    }

    /** Five blocks of this kind and length are sawn into its rack. */
    private static SawnIce fill(SawnIce x, int kind, int length) {
        for (int i = 0; i < 5; i++) {
            x.saw(kind, length, kind);
        }
        return x;
    }

    /** Melts the ice down to less than 10. */
    private static SawnIce thin(SawnIce x) {
        Palaces.heatAll(x, 20);
        x.pass(3);
        return x;
    }

    private static void fortyBlocks() {
        Doc.terms("1, there are 40 blocks: 40;");
        SawnIce x = sawn(39, 1);
        Check.is("39 blocks", x.saw(0, 1, 0), 39);
        refused("40 blocks", x, () -> x.saw(0, 1, 0), "1: 40");
        refused("40 blocks, a wedge", x, () -> x.saw(1, 6, 1), "1: 40");
        x.undo();
        Check.is("39 again", x.saw(1, 1, 1), 39);
    }

    private static void thinIce() {
        Doc.terms("2, the ice is thinner than 10: the thickness;");
        for (int thickness = 0; thickness <= 12; thickness++) {
            SawnIce x = Palaces.iceOf(thickness);
            if (thickness >= 10) {
                Check.is("ice of " + thickness, x.saw(0, 1, 0), 0);
            } else {
                refused("ice of " + thickness, x, () -> x.saw(0, 1, 0), "2: " + thickness);
                refused("a wedge, ice of " + thickness, x, () -> x.saw(1, 1, 1), "2: " + thickness);
            }
        }
    }

    private static void lengthLeft() {
        Doc.terms("3, less length is left in the pond: what is left;");
        for (int left = 0; left <= 6; left++) {
            for (int length = 1; length <= 6; length++) {
                SawnIce x = sawn(32, 6);
                x.take(x.saw(1, 2, 1));
                if (left < 6) {
                    x.take(x.saw(1, 6 - left, 1));
                }
                int number = x.account(4);
                int asked = length;
                Check.is("left", x.account(2), left);
                if (length <= left) {
                    Check.is(length + " of " + left, x.saw(0, length, 0), number);
                    Check.is("then left", x.account(2), left - length);
                } else {
                    refused(length + " of " + left, x, () -> x.saw(0, asked, 0), "3: " + left);
                    Check.is("still left", x.account(2), left);
                }
            }
        }
    }

    private static void lengthsOfGoneBlocks() {
        Doc.terms("The lengths of blocks that are gone count among the 200.");
        SawnIce x = new SawnIce();
        x.take(x.saw(0, 6, 0));
        Check.is("taken", x.account(2), 194);
        Palaces.put(x, 1, 1, 0, 0);
        Palaces.put(x, 0, 2, 0, 1);
        x.pass(1);
        Check.is("broken and fallen", Palaces.signs(x), "tbf");
        Check.is("they count", x.account(2), 191);
        Palaces.put(x, 1, 1, 0, 0);
        x.visit(50);
        x.pass(2);
        Check.is("melted", x.sign(3), 'm');
        Check.is("it counts", x.account(2), 190);
        Check.is("all is well", x.isWell(), true);
    }

    private static void fullRack() {
        Doc.terms("4, the rack is full: the rack;");
        for (int rack = 0; rack <= 1; rack++) {
            int kind = rack;
            SawnIce x = new SawnIce();
            for (int i = 0; i < 4; i++) {
                x.saw(kind, 1, kind);
            }
            Check.is("four in the rack " + rack, x.saw(kind, 1, kind), 4);
            refused("five in the rack " + rack, x, () -> x.saw(kind, 1, kind), "4: " + rack);
            Check.is("the other rack is not full", x.saw(1 - kind, 1, 1 - kind), 5);
            x.take(2);
            Check.is("four again", x.saw(kind, 1, kind), 6);
            refused("five again", x, () -> x.saw(kind, 1, kind), "4: " + rack);
            x.lay(6, 0, 0);
            Check.is("four again when one is laid", x.saw(kind, 1, kind), 7);
        }
    }

    private static void otherKind() {
        Doc.terms("5, the rack is for the other kind: the rack;");
        SawnIce x = new SawnIce();
        refused("a wedge into the rack 0", x, () -> x.saw(1, 1, 0), "5: 0");
        refused("a slab into the rack 1", x, () -> x.saw(0, 1, 1), "5: 1");
        Check.is("a slab into the rack 0", x.saw(0, 1, 0), 0);
        Check.is("a wedge into the rack 1", x.saw(1, 1, 1), 1);
    }

    private static void orderOfSawing() {
        Doc.terms("Something is refused for the first that applies of the reasons that its method names, in the order in"
                + " which it names them, with a detail:");
        SawnIce a = thin(sawn(40, 1));
        refused("1 and 2", a, () -> a.saw(0, 1, 0), "1: 40");
        SawnIce b = sawn(40, 5);
        refused("1 and 3", b, () -> b.saw(0, 1, 0), "1: 40");
        SawnIce c = fill(sawn(35, 1), 1, 1);
        refused("1 and 4", c, () -> c.saw(1, 1, 1), "1: 40");
        SawnIce d = sawn(40, 1);
        refused("1 and 5", d, () -> d.saw(0, 1, 1), "1: 40");
        SawnIce e = thin(sawn(33, 6));
        refused("2 and 3", e, () -> e.saw(0, 3, 0), "2: 8");
        SawnIce f = thin(fill(new SawnIce(), 0, 1));
        refused("2 and 4", f, () -> f.saw(0, 1, 0), "2: 8");
        SawnIce g = thin(new SawnIce());
        refused("2 and 5", g, () -> g.saw(0, 1, 1), "2: 8");
        SawnIce h = fill(sawn(28, 6), 0, 6);
        refused("3 and 4", h, () -> h.saw(0, 3, 0), "3: 2");
        refused("3, 4 and 5", h, () -> h.saw(1, 3, 0), "3: 2");
        SawnIce i = sawn(33, 6);
        refused("3 and 5", i, () -> i.saw(0, 3, 1), "3: 2");
        SawnIce j = fill(fill(new SawnIce(), 0, 1), 1, 1);
        refused("4 and 5, rack 0", j, () -> j.saw(1, 1, 0), "4: 0");
        refused("4 and 5, rack 1", j, () -> j.saw(0, 1, 1), "4: 1");
        SawnIce all = thin(fill(sawn(35, 5), 1, 5));
        refused("all five", all, () -> all.saw(0, 6, 1), "1: 40");
    }

    private static void notInRack() {
        Doc.terms("6, the block is not in a rack: the block;");
        SawnIce x = new SawnIce();
        Palaces.put(x, 0, 1, 0, 0);
        x.take(x.saw(0, 1, 0));
        x.saw(0, 1, 0);
        for (int block = 0; block <= 1; block++) {
            int one = block;
            String where = block == 0 ? "on the wall" : "gone";
            refused("lay, " + where, x, () -> x.lay(one, 5, 0), "6: " + block);
            refused("take, " + where, x, () -> x.take(one), "6: " + block);
        }
        Check.is("in a rack", x.take(2), 1);
        refused("taken twice", x, () -> x.take(2), "6: 2");
    }

    private static void sticksOut() {
        Doc.terms("7, it would stick out of the wall: by how many columns;");
        for (int length = 1; length <= 6; length++) {
            for (int column = 6; column <= 11; column++) {
                SawnIce x = new SawnIce();
                x.saw(1, length, 1);
                int first = column;
                String what = length + " at " + column;
                if (column + length <= 12) {
                    Check.is(what, x.lay(0, column, 0), length);
                } else {
                    refused(what, x, () -> x.lay(0, first, 0), "7: " + (column + length - 12));
                    refused(what + ", up in the air", x, () -> x.lay(0, first, 7), "7: " + (column + length - 12));
                }
            }
        }
    }

    private static void filled() {
        Doc.terms("8, a column is filled: the block in the lowest such column;");
        SawnIce x = new SawnIce();
        Palaces.put(x, 0, 1, 7, 0);
        Palaces.put(x, 0, 1, 5, 0);
        Palaces.put(x, 0, 1, 3, 0);
        x.saw(0, 6, 0);
        x.saw(0, 1, 0);
        String[] due = {"8: 2", "8: 2", "8: 2", "8: 2", "8: 1", "8: 1", "8: 0"};
        for (int column = 0; column <= 6; column++) {
            int first = column;
            refused("six columns from " + column, x, () -> x.lay(3, first, 0), due[column]);
        }
        refused("the very column", x, () -> x.lay(4, 7, 0), "8: 0");
        Check.is("just between two", x.lay(4, 4, 0), 1);
        Palaces.tower(x, 0, 2);
        refused("in a higher course", x, () -> x.lay(3, 0, 1), "8: 6");
        Check.is("just beside the others", x.lay(x.saw(0, 4, 0), 8, 0), 4);

        SawnIce y = new SawnIce();
        Palaces.put(y, 0, 3, 6, 0);
        y.saw(0, 6, 0);
        refused("its last column only", y, () -> y.lay(1, 1, 0), "8: 0");
        Check.is("ends just before it", y.lay(1, 0, 0), 6);
        y.saw(0, 3, 0);
        refused("its first column only", y, () -> y.lay(2, 8, 0), "8: 0");
        Check.is("begins just behind it", y.lay(2, 9, 0), 3);
    }

    private static void notSupported() {
        Doc.terms("9, it would not be supported: how many columns would be.");
        int[][] cases = {{1, 0}, {2, 0}, {3, 0}, {3, 1}, {4, 0}, {4, 1}, {5, 0}, {5, 1}, {5, 2}, {6, 0}, {6, 1},
            {6, 2}};
        for (int[] one : cases) {
            SawnIce x = new SawnIce();
            x.saw(1, one[0], 1);
            if (one[1] > 0) {
                Palaces.put(x, 0, one[1], 6 - one[1], 0);
            }
            refused(one[1] + " of " + one[0], x, () -> x.lay(0, 6 - one[1], 1), "9: " + one[1]);
        }
        SawnIce y = new SawnIce();
        y.saw(0, 1, 0);
        for (int course = 1; course <= 7; course++) {
            int high = course;
            refused("in the air, course " + course, y, () -> y.lay(0, 0, high), "9: 0");
        }
        Check.is("on the ground", y.lay(0, 0, 0), 1);
    }

    private static void orderOfLaying() {
        Doc.promise(5, "Throws `UnsupportedOperationException` if it is refused for reason 6, 7, 8 or 9");
        SawnIce x = new SawnIce();
        Palaces.put(x, 0, 3, 9, 0);
        Palaces.put(x, 0, 2, 9, 1);
        x.saw(0, 3, 0);
        refused("6 and 7", x, () -> x.lay(0, 10, 0), "6: 0");
        refused("6 and 8", x, () -> x.lay(0, 9, 0), "6: 0");
        refused("6 and 9", x, () -> x.lay(0, 0, 5), "6: 0");
        refused("7 and 8", x, () -> x.lay(2, 10, 0), "7: 1");
        refused("7 and 9", x, () -> x.lay(2, 11, 5), "7: 2");
        refused("8 and 9", x, () -> x.lay(2, 7, 1), "8: 1");
        refused("9 alone", x, () -> x.lay(2, 6, 1), "9: 0");
        Check.is("none", x.lay(2, 6, 0), 3);
    }

    private static void kept() {
        Doc.promise(26, "Throws `NoSuchElementException` if nothing was refused");
        SawnIce x = new SawnIce();
        Check.fails("a new object", NONE, () -> x.refusal(false));
        Check.fails("a new object's detail", NONE, () -> x.refusal(true));
        x.saw(0, 6, 0);
        Check.fails("something went well", NONE, () -> x.refusal(false));
        Doc.promise(26, "Returns the reason of the latest refusal.");
        refused("first", x, () -> x.saw(1, 1, 0), "5: 0");
        Check.is("asked again", Palaces.refusal(x), "5: 0");
        refused("then another", x, () -> x.lay(0, 11, 0), "7: 5");
        Check.is("it goes well then", x.lay(0, 6, 0), 6);
        Check.is("the latest is kept", Palaces.refusal(x), "7: 5");
        refused("the same detail, another reason", x, () -> x.take(0), "6: 0");
    }
}
