import java.util.NoSuchElementException;

/** The plain sentences of the document, those that name no boundary case, in its order. */
public final class SentencesTest {
    private static final Class<IllegalArgumentException> ARGUMENT = IllegalArgumentException.class;
    private static final Class<UnsupportedOperationException> REFUSED = UnsupportedOperationException.class;
    private static final Class<NoSuchElementException> NONE = NoSuchElementException.class;

    public static void main(String[] args) {
        whatItIs();
        floats();
        whereBlocksAre();
        orders();
        heat();
        visit();
        saw();
        lay();
        take();
        pass();
        numbersOfBlocks();
        masses();
        loads();
        wall();
        shadows();
        worst();
        ahead();
        texts();
        refusals();
        accounts();
        well();
        mean();
        Check.end("SentencesTest");
    }

    private static void whatItIs() {
        Doc.whatItIs("blocks that are sawn from a pond, racks for one kind of block each");
        SawnIce x = new SawnIce();
        for (int kind = 0; kind <= 1; kind++) {
            int it = kind;
            Check.fails("kind " + it + " in the other rack", REFUSED, () -> x.saw(it, 1, 1 - it));
            Check.is("kind " + it + " in its rack", x.blockOf(x.saw(it, 1, it), 0), it);
        }
        Doc.whatItIs("a wall of courses in which blocks must be supported and bear one another");
        Check.fails("on nothing", REFUSED, () -> x.lay(0, 0, 1));
        x.lay(1, 0, 0);
        Check.is("on a block", x.lay(0, 0, 1), 1);
        Check.is("which bears it", x.load(1, false), Palaces.bits(20.0f));
    }

    private static void floats() {
        Doc.terms("Computations of floats are done from the left to the right, those in brackets first.");
        SawnIce x = Palaces.gate();
        x.heat(0, 3);
        x.pass(1);
        float sun = 1.0f - (0.005f * 3.0f);
        Check.is("melting", x.mass(2), 120.0f * sun);
        float weight = 120.0f * sun;
        Check.is("load", x.load(1, false), Palaces.bits(weight * 3.0f / 5.0f));
        Check.is("load again", x.loadAgain(1), Palaces.bits(weight * 3.0f / 5.0f));
        int told = 0;
        for (int hour = 1; hour <= 5; hour++) {
            x.heat(hour, hour);
            x.pass(1);
            weight = weight * (1.0f - (0.005f * (float) hour));
            Check.is("load, hour " + hour, x.load(0, false), Palaces.bits(weight * 2.0f / 5.0f));
            told += weight * 2.0f / 5.0f != weight * (2.0f / 5.0f) ? 1 : 0;
        }
        Check.is("another order would tell", told > 0, true);
    }

    private static void whereBlocksAre() {
        Doc.terms("It is in a rack, on the wall, or gone.");
        SawnIce x = new SawnIce();
        x.saw(0, 2, 0);
        Check.is("in a rack", where(x, 0), "0 r 0 -1");
        x.lay(0, 4, 0);
        Check.is("on the wall", where(x, 0), "1 w -1 0");
        Palaces.heatAll(x, 0);
        x.visit(50);
        x.pass(8);
        Check.is("gone", where(x, 0), "2 m -1 -1");
    }

    /** Its state and its sign, what is at the place 0 of its rack, and what is at the column 4 on the ground. */
    private static String where(SawnIce x, int block) {
        return x.blockOf(block, 2) + " " + x.sign(block) + " " + x.inRack(x.blockOf(block, 0), 0) + " " + x.at(4, 0);
    }

    private static void orders() {
        Doc.terms("\"s\", a kind, a length and \"@\" and a rack saws a block into a rack;");
        Doc.terms("\"l\", a number, \"@\" a column and \"/\" a course lays the block with this number;");
        Doc.terms("\"h\" and a number lets hours go by; \"v\" and a number sets the visitors;");
        Doc.terms("\"t\", an hour of the day, \"=\", then perhaps \"-\", and a number sets a temperature.");
        SawnIce x = new SawnIce();
        SawnIce y = new SawnIce();
        Check.is("slab", Palaces.read(x, "s04@0"), 1);
        y.saw(0, 4, 0);
        Check.is("wedge", Palaces.read(x, "s13@1"), 1);
        y.saw(1, 3, 1);
        Check.is("lay", Palaces.read(x, "l0@8/0"), 1);
        y.lay(0, 8, 0);
        Check.is("lay, two digits", Palaces.read(x, "l01@09/1"), 1);
        y.lay(1, 9, 1);
        Check.is("hours", Palaces.read(x, "h13"), 1);
        y.pass(13);
        Check.is("visitors", Palaces.read(x, "v7"), 1);
        y.visit(7);
        Check.is("warm", Palaces.read(x, "t13=17"), 1);
        y.heat(13, 17);
        Check.is("cold", Palaces.read(x, "t3=-9"), 1);
        y.heat(3, -9);
        Check.is("as by the calls", Palaces.all(x), Palaces.all(y));
        Check.is("the cold hour", x.heat(3, 0), y.heat(3, 0));
        Check.is("all at once", Palaces.read(x, "s16@1;l2@0/0;v0;h2;t0=0"), 5);
        y.saw(1, 6, 1);
        y.lay(2, 0, 0);
        y.visit(0);
        y.pass(2);
        y.heat(0, 0);
        Check.is("as by the calls one after the other", Palaces.all(x), Palaces.all(y));
    }

    private static void heat() {
        Doc.promise(2, "Sets a temperature.");
        SawnIce x = new SawnIce();
        x.heat(1, 20);
        x.heat(2, 12);
        x.pass(1);
        Check.is("in its hour", x.account(12), 20);
        x.pass(1);
        Check.is("in the next", x.account(12), 12);
        Check.is("the ice by -5 and 20", x.account(1), 20 + 1 - 4);
        x.pass(1);
        Check.is("by 12", x.account(1), 17 - 2);
        Doc.promise(2, "Returns the temperature before.");
        for (int hour = 0; hour <= 23; hour++) {
            Check.is("first, hour " + hour, x.heat(hour, hour - 7), hour == 1 ? 20 : hour == 2 ? 12 : -5);
        }
        for (int hour = 23; hour >= 0; hour--) {
            Check.is("then, hour " + hour, x.heat(hour, 0), hour - 7);
        }
    }

    private static void visit() {
        Doc.promise(3, "Sets the visitors.");
        SawnIce x = new SawnIce();
        Palaces.put(x, 0, 1, 0, 0);
        x.visit(30);
        x.pass(1);
        Check.is("they warm", x.mass(0), 20.0f - (0.1f * 30.0f));
        Doc.promise(3, "Returns how many there were before.");
        Check.is("30 before", x.visit(11), 30);
        Check.is("11 before", x.visit(11), 11);
        Check.is("11 now", x.account(3), 11);
    }

    private static void saw() {
        Doc.promise(4, "Saws a block from the pond into a rack;");
        Doc.promise(4, "Returns its number.");
        SawnIce x = new SawnIce();
        int left = 200;
        for (int number = 0; number < 8; number++) {
            int kind = number % 2;
            int length = 1 + number % 6;
            Check.is("number", x.saw(kind, length, kind), number);
            left -= length;
            Check.is("left in the pond", x.account(2), left);
            Check.is("in its rack", x.inRack(kind, number / 2), number);
            Check.is("its kind", x.blockOf(number, 0), kind);
            Check.is("its length", x.blockOf(number, 1), length);
        }
        Doc.promise(4, "Throws `UnsupportedOperationException` if it is refused for reason 1, 2, 3, 4 or 5; the reason is"
                + " kept for refusal");
        Check.fails("refused", REFUSED, () -> x.saw(1, 1, 0));
        Check.is("kept", Palaces.refusal(x), "5: 0");
        x.saw(0, 1, 0);
        Check.is("kept behind what is not refused", Palaces.refusal(x), "5: 0");
        Check.fails("refused again", REFUSED, () -> x.saw(0, 1, 0));
        Check.is("the latest", Palaces.refusal(x), "4: 0");
    }

    private static void lay() {
        Doc.promise(5, "Lays a block from its rack on the wall.");
        SawnIce x = Palaces.gate();
        int block = x.saw(1, 3, 1);
        int other = x.saw(1, 2, 1);
        x.lay(other, 9, 0);
        Check.is("its place in the rack is free", x.inRack(1, 1), -1);
        Check.is("the other stays there", x.inRack(1, 0), block);
        Check.is("it fills its columns", x.at(8, 0) + " " + x.at(9, 0) + " " + x.at(10, 0) + " " + x.at(11, 0),
                "1 " + other + " " + other + " -1");
        Doc.promise(5, "Returns the number of its supported columns.");
        Check.is("on the ground all", x.lay(x.saw(0, 1, 0), 4, 0), 1);
        Check.is("three of four", x.lay(x.saw(0, 4, 0), 8, 1), 3);
        Check.is("on two blocks", x.lay(block, 7, 2), 3);
        Check.is("one of two", x.lay(x.saw(0, 2, 0), 6, 3), 1);
    }

    private static void take() {
        Doc.promise(6, "Takes a block out of its rack; it is gone.");
        SawnIce x = new SawnIce();
        x.saw(1, 5, 1);
        x.saw(1, 2, 1);
        Check.is("its length", x.take(0), 5);
        Check.is("out of its rack", x.inRack(1, 0) + " " + x.inRack(1, 1), "-1 1");
        Check.is("gone", x.blockOf(0, 2) + " " + x.blockOf(0, 7) + " " + x.sign(0), "2 1 t");
        Doc.promise(6, "Throws `UnsupportedOperationException` if it is refused for reason 6; the reason is kept for"
                + " refusal");
        Check.fails("gone already", REFUSED, () -> x.take(0));
        Check.is("kept", Palaces.refusal(x), "6: 0");
        x.lay(1, 0, 0);
        Check.fails("on the wall", REFUSED, () -> x.take(1));
        Check.is("the latest", Palaces.refusal(x), "6: 1");
    }

    private static void pass() {
        Doc.promise(7, "Lets hours go by.");
        SawnIce x = new SawnIce();
        SawnIce y = new SawnIce();
        for (SawnIce ice : new SawnIce[] {x, y}) {
            Palaces.tower(ice, 3, 3);
            ice.heat(2, 20);
            ice.visit(9);
        }
        x.pass(5);
        for (int hour = 0; hour < 5; hour++) {
            y.pass(1);
        }
        Check.is("five hours are five times one", Palaces.all(x), Palaces.all(y));
        Check.is("the clock", x.account(0), 5);
    }

    private static void numbersOfBlocks() {
        Doc.promise(8, "0 for its kind, 1 for its length, 2 for 0 in a rack, 1 on the wall and 2 if it is gone,");
        SawnIce x = Palaces.gate();
        x.saw(1, 3, 1);
        x.take(x.saw(1, 5, 1));
        Check.is("on the wall", x.blockOf(2, 0) + " " + x.blockOf(2, 1) + " " + x.blockOf(2, 2), "0 6 1");
        Check.is("in a rack", x.blockOf(3, 0) + " " + x.blockOf(3, 1) + " " + x.blockOf(3, 2), "1 3 0");
        Check.is("gone", x.blockOf(4, 0) + " " + x.blockOf(4, 1) + " " + x.blockOf(4, 2), "1 5 2");
    }

    private static void masses() {
        Doc.promise(9, "Returns the mass of a block that is not gone.");
        SawnIce x = Palaces.iceOf(23);
        x.saw(0, 3, 0);
        x.saw(1, 3, 1);
        Check.is("slab", x.mass(0), 3.0f * 23.0f * 1.0f);
        Check.is("wedge", x.mass(1), 3.0f * 23.0f * 0.5f);
        x.lay(0, 0, 0);
        x.visit(13);
        x.pass(1);
        Check.is("on the wall", x.mass(0), 69.0f - (0.1f * 13.0f));
        Check.is("in the rack", x.mass(1), 34.5f);
    }

    private static void loads() {
        Doc.promise(10, "Returns the bits of the load of a block on the wall, or of what it bears.");
        Doc.promise(10, "true for what it bears, false for its load");
        SawnIce x = new SawnIce();
        int[] blocks = {Palaces.put(x, 0, 4, 0, 0), Palaces.put(x, 0, 4, 5, 0), Palaces.put(x, 1, 6, 2, 1),
            Palaces.put(x, 0, 1, 7, 2)};
        x.pass(4);
        float[] loads = {80.0f * 2.0f / 5.0f, 80.0f * 3.0f / 5.0f, 20.0f, 0.0f};
        float joint = 1.0f + (0.1f * 4.0f);
        float[] borne = {80.0f * 4.0f * joint, 80.0f * 4.0f * joint, 60.0f * 2.0f * joint, 20.0f * 4.0f * joint};
        for (int block : blocks) {
            Check.is("load of " + block, x.load(block, false), Float.floatToIntBits(loads[block]));
            Check.is("what bears " + block, x.load(block, true), Float.floatToIntBits(borne[block]));
        }
        Doc.promise(11, "found in another way: from the blocks that lie on it, by their numbers, each with its own load"
                + " found like this.");
        for (int block : blocks) {
            Check.is("again of " + block, x.loadAgain(block), Float.floatToIntBits(loads[block]));
        }
        // Two blocks lie on one: the sum begins with the lower number, which is the one at the right.
        SawnIce y = Palaces.iceOf(13);
        y.saw(0, 3, 0);
        y.saw(1, 5, 1);
        Palaces.put(y, 0, 6, 3, 0);
        y.lay(0, 7, 1);
        y.lay(1, 2, 1);
        y.heat(y.account(0) % 24, 7);
        y.pass(1);
        float first = y.mass(0) * 2.0f / 2.0f;
        float second = y.mass(1) * 4.0f / 4.0f;
        Check.is("of two", y.loadAgain(2), Palaces.bits(0.0f + first + second));
        Check.is("of two, from above", y.load(2, false), Palaces.bits(0.0f + first + second));
    }

    private static void wall() {
        SawnIce x = Palaces.gate();
        Doc.promise(12, "Returns the block at a place of the wall.");
        Check.is("the first column of a block", x.at(5, 0), 1);
        Check.is("its last column", x.at(8, 0), 1);
        Check.is("one course up", x.at(5, 1), 2);
        Doc.promise(13, "Returns the height of a column.");
        Check.is("heights", x.height(1) + " " + x.height(2) + " " + x.height(4) + " " + x.height(9), "1 2 2 0");
        Doc.promise(16, "0 for how many there are,");
        Check.is("one room", x.rooms(0, 0), 1);
        Palaces.put(x, 0, 1, 11, 0);
        Palaces.put(x, 0, 4, 8, 1);
        Check.is("two rooms", x.rooms(0, 0), 2);
        Check.is("none above", x.rooms(1, 0), 0);
        Doc.promise(17, "Returns the block at a place of a rack.");
        x.saw(1, 1, 1);
        x.saw(0, 1, 0);
        x.saw(1, 1, 1);
        Check.is("racks", x.inRack(0, 0) + " " + x.inRack(0, 1) + " " + x.inRack(1, 0) + " " + x.inRack(1, 1), "6 -1 5 7");
    }

    private static void shadows() {
        Doc.promise(14, "Tells whether a block on the wall is in the shadow in an hour of the day.");
        SawnIce x = new SawnIce();
        Palaces.tower(x, 4, 4);
        int right = Palaces.put(x, 0, 2, 6, 0);
        int left = Palaces.put(x, 0, 2, 0, 0);
        for (int hour = 0; hour <= 23; hour++) {
            Check.is("to the right of a tower, hour " + hour, x.isShady(right, hour), hour < 12 || hour > 17);
            Check.is("to the left of it, hour " + hour, x.isShady(left, hour), hour < 6 || hour > 11);
        }
        Doc.promise(15, "Returns the sign of a block.");
        x.take(x.saw(1, 1, 1));
        x.saw(1, 1, 1);
        Check.is("signs", Palaces.signs(x), "wwwwwwtr");
    }

    private static void worst() {
        Doc.promise(18, "Returns the block with the greatest part of its load in what it bears:");
        SawnIce x = new SawnIce();
        Palaces.put(x, 0, 6, 0, 0);
        Palaces.put(x, 0, 1, 7, 0);
        Palaces.put(x, 0, 4, 0, 1);
        Palaces.put(x, 1, 2, 7, 1);
        Check.is("80 of 480, 20 of 80", x.load(0, false) > x.load(1, false) ? x.worst() : -1, 1);
        Palaces.put(x, 0, 4, 0, 2);
        Check.is("160 of 480, 80 of 320, 20 of 80", x.worst(), 0);
        x.heat(0, 6);
        x.pass(1);
        Check.is("what has melted counts", x.worst(), 0);
    }

    private static void ahead() {
        Doc.promise(20, "Returns the bits of the mass, as by Float.floatToIntBits,");
        SawnIce x = Palaces.gate();
        Palaces.heatAll(x, 3);
        x.visit(7);
        int[] bits = new int[7];
        for (int hours = 0; hours <= 6; hours++) {
            bits[hours] = x.massBits(0, hours);
        }
        for (int hours = 0; hours <= 6; hours++) {
            Check.is("mass after " + hours, bits[hours], Float.floatToIntBits(x.mass(0)));
            x.pass(1);
        }
        Doc.promise(21, "if there were so many from now on and only hours went by.");
        SawnIce y = new SawnIce();
        Palaces.heatAll(y, 0);
        Palaces.put(y, 0, 2, 0, 0);
        y.visit(50);
        int safe = y.safe();
        Check.is("13 hours take 39 of 40", safe, 30);
        y.visit(safe);
        Check.is("so many are", y.left(13), 1);
        y.visit(safe + 1);
        Check.is("one more are not", y.left(13), 0);
    }

    private static void texts() {
        Doc.promise(23, "Appends a character to the input.");
        SawnIce x = new SawnIce();
        Check.is("first", x.append('v'), 1);
        Check.is("second", x.append('9'), 2);
        Check.is("it is read", x.read() + " " + x.account(3), "1 9");
        Doc.promise(24, "Throws `IllegalArgumentException` if the text has an error,");
        Check.fails("an error", ARGUMENT, () -> Palaces.read(x, "v8;v"));
        Check.is("nothing of it", x.account(3), 9);
        Doc.promise(25, "Returns the error position of the text of the latest call of read.");
        Check.is("of the first", x.errorPosition(), 4);
        Check.fails("another one", ARGUMENT, () -> Palaces.read(x, "v8,v7"));
        Check.is("of the latest", x.errorPosition(), 2);
        Palaces.type(x, "xyz");
        Check.is("appending is no read", x.errorPosition(), 2);
    }

    private static void refusals() {
        Doc.promise(26, "true for the detail, false for the reason");
        SawnIce x = Palaces.gate();
        x.saw(0, 6, 0);
        Check.fails("it sticks out", REFUSED, () -> x.lay(3, 10, 0));
        Check.is("reason 7", x.refusal(false), 7);
        Check.is("by 4", x.refusal(true), 4);
        Check.fails("it lies on another", REFUSED, () -> x.lay(3, 4, 0));
        Check.is("reason 8", x.refusal(false), 8);
        Check.is("on 1", x.refusal(true), 1);
    }

    private static void accounts() {
        Doc.promise(27, "0 for the clock, 1 for the thickness, 2 for the length that is left in the pond, 3 for the"
                + " visitors, 4 for the blocks that were sawn, 5 for those in racks, 6 for those on the wall, 7 for those"
                + " that were taken, 8 for those that melted, 9 for those that broke, 10 for those that fell, 11 for the"
                + " columns of the wall that are filled, of all courses, 12 for the temperature of the hour of the day that"
                + " is now, 13 for the characters in the input, 14 for the changes that can be undone");
        SawnIce x = new SawnIce();
        Palaces.heatAll(x, 0);
        x.heat(2, -30);
        x.heat(3, 13);
        for (int i = 0; i < 3; i++) {
            x.saw(0, 2, 0);
            x.take(x.saw(1, 6, 1));
        }
        Palaces.put(x, 1, 1, 11, 0);
        Palaces.put(x, 1, 1, 9, 0);
        x.visit(50);
        x.pass(2);
        x.visit(3);
        // A wedge under much ice breaks, and what lay on it falls.
        Palaces.put(x, 1, 1, 0, 0);
        for (int course = 1; course <= 5; course++) {
            Palaces.put(x, 0, 1, 0, course);
        }
        x.lay(0, 4, 0);
        x.pass(1);
        Palaces.type(x, "h1;");
        int[] due = {3, 26, 200 - 6 - 18 - 2 - 6, 3, 14, 2, 1, 3, 2, 1, 5, 2, 13, 3, 8};
        for (int what = 0; what < due.length; what++) {
            Check.is("account " + what, x.account(what), due[what]);
        }
        x.undo();
        Check.is("one change less", x.account(14), 7);
    }

    private static void well() {
        Doc.promise(28, "Tells, by a second way, whether all is well:");
        SawnIce x = Palaces.gate();
        Palaces.heatAll(x, 7);
        x.visit(8);
        for (int day = 0; day < 6; day++) {
            Check.is("day " + day, x.isWell(), true);
            x.pass(24);
        }
        Check.is("behind it all", x.isWell(), true);
    }

    private static void mean() {
        Doc.promise(29, "Returns the mean of the masses of the blocks on the wall:");
        Doc.promise(29, "Returns the bits, as by Double.doubleToLongBits.");
        SawnIce x = Palaces.gate();
        x.saw(0, 5, 0);
        Check.is("of 80, 80 and 120", x.meanBits(), Double.doubleToLongBits(280.0 / 3.0));
        x.heat(0, 7);
        x.visit(11);
        x.pass(1);
        double sum = 0.0 + (double) x.mass(0) + (double) x.mass(1) + (double) x.mass(2);
        Check.is("of what is left of them", x.meanBits(), Double.doubleToLongBits(sum / 3.0));
        SawnIce y = new SawnIce();
        y.saw(0, 5, 0);
        Check.fails("none on the wall", ArithmeticException.class, () -> y.meanBits());
        Check.fails("none is the worst", NONE, () -> y.worst());
    }
}
