/** Promises 1 to 7: a new object, and the changes. */
public final class ChangesTest {
    private static final Class<IndexOutOfBoundsException> INDEX = IndexOutOfBoundsException.class;
    private static final Class<IllegalArgumentException> ARGUMENT = IllegalArgumentException.class;
    private static final Class<UnsupportedOperationException> REFUSED = UnsupportedOperationException.class;

    public static void main(String[] args) {
        newObject();
        heat();
        visit();
        saw();
        sawRefused();
        lay();
        layRefused();
        take();
        pass();
        ice();
        joints();
        melting();
        visitors();
        order();
        falling();
        breaking();
        Check.end("ChangesTest");
    }

    private static void newObject() {
        SawnIce x = new SawnIce();
        int[] due = {0, 20, 200, 0, 0, 0, 0, 0, 0, 0, 0, 0, -5, 0, 0};
        for (int what = 0; what < due.length; what++) {
            Check.is("1 account(" + what + ")", x.account(what), due[what]);
        }
        for (int cell = 0; cell < 96; cell++) {
            Check.is("1 wall", x.at(cell % 12, cell / 12), -1);
        }
        for (int place = 0; place < 5; place++) {
            Check.is("1 rack 0", x.inRack(0, place), -1);
            Check.is("1 rack 1", x.inRack(1, place), -1);
        }
    }

    private static void heat() {
        SawnIce x = new SawnIce();
        Check.is("2 first", x.heat(0, 20), -5);
        Check.is("2 again", x.heat(0, -30), 20);
        Check.is("2 of another hour", x.heat(23, 0), -5);
        Check.is("2 is set", x.account(12), -30);
        Check.fails("2 hour 24", INDEX, () -> x.heat(24, 0));
        Check.fails("2 hour -1, with a wrong temperature too", INDEX, () -> x.heat(-1, 21));
        Check.fails("2 too hot", ARGUMENT, () -> x.heat(0, 21));
        Check.fails("2 too cold", ARGUMENT, () -> x.heat(0, -31));
        Check.is("2 unchanged", x.heat(0, 1), -30);
    }

    private static void visit() {
        SawnIce x = new SawnIce();
        Check.is("3 first", x.visit(50), 0);
        Check.fails("3 too many", ARGUMENT, () -> x.visit(51));
        Check.fails("3 too few", ARGUMENT, () -> x.visit(-1));
        Check.is("3 again", x.visit(0), 50);
        Check.is("3 account", x.account(3), 0);
    }

    private static void saw() {
        SawnIce x = new SawnIce();
        Check.is("4 slab", x.saw(0, 6, 0), 0);
        Check.is("4 wedge", x.saw(1, 3, 1), 1);
        Check.is("4 slab's mass", x.mass(0), 120.0f);
        Check.is("4 wedge's mass", x.mass(1), 30.0f);
        Check.is("4 what is left", x.account(2), 191);
        Check.is("4 slab's place", x.inRack(0, 0), 0);
        Check.is("4 wedge's place", x.inRack(1, 0), 1);
        x.saw(0, 1, 0);
        x.saw(0, 1, 0);
        x.take(0);
        Check.is("4 lowest free place", x.blockOf(x.saw(0, 1, 0), 6), 0);
        Check.is("4 then the next free one", x.blockOf(x.saw(0, 1, 0), 6), 3);
        Check.fails("4 rack 2, with a wrong kind too", INDEX, () -> x.saw(2, 1, 2));
        Check.fails("4 rack -1", INDEX, () -> x.saw(0, 1, -1));
        Check.fails("4 kind 2", ARGUMENT, () -> x.saw(2, 1, 0));
        Check.fails("4 kind -1", ARGUMENT, () -> x.saw(-1, 1, 0));
        Check.fails("4 length 0", ARGUMENT, () -> x.saw(0, 0, 0));
        Check.fails("4 length 7", ARGUMENT, () -> x.saw(0, 7, 0));
        Check.is("4 unchanged", x.account(4), 6);
        Check.is("4 length unchanged", x.account(2), 187);
    }

    private static void sawRefused() {
        SawnIce x = new SawnIce();
        Check.fails("4 the other kind", REFUSED, () -> x.saw(1, 1, 0));
        Check.is("4 reason 5", Palaces.refusal(x), "5: 0");
        for (int i = 0; i < 5; i++) {
            x.saw(1, 6, 1);
        }
        Check.fails("4 full, and for the other kind", REFUSED, () -> x.saw(0, 1, 1));
        Check.is("4 reason 4", Palaces.refusal(x), "4: 1");
        for (int i = 0; i < 27; i++) {
            x.take(x.inRack(1, 0));
            x.saw(1, 6, 1);
        }
        Check.is("4 gone blocks count among the 200", x.account(2), 8);
        x.take(x.inRack(1, 0));
        x.saw(1, 3, 1);
        Check.fails("4 too little left, and full", REFUSED, () -> x.saw(1, 6, 1));
        Check.is("4 reason 3", Palaces.refusal(x), "3: 5");
        x.take(x.inRack(1, 0));
        Check.is("4 all that is left", x.saw(1, 5, 1), 33);
        Check.is("4 none left", x.account(2), 0);
        Palaces.heatAll(x, 20);
        x.pass(3);
        Check.fails("4 thin, and none left", REFUSED, () -> x.saw(1, 1, 1));
        Check.is("4 reason 2", Palaces.refusal(x), "2: 8");

        SawnIce y = new SawnIce();
        Palaces.heatAll(y, 20);
        y.heat(2, 12);
        y.heat(3, 5);
        y.pass(3);
        Check.is("4 ice of 10 is enough", y.mass(y.saw(1, 1, 1)), 5.0f);
        y.pass(1);
        Check.fails("4 ice of 9, and the other kind", REFUSED, () -> y.saw(1, 1, 0));
        Check.is("4 reason 2 of 9", Palaces.refusal(y), "2: 9");

        SawnIce z = new SawnIce();
        for (int i = 0; i < 39; i++) {
            z.take(z.saw(0, 5, 0));
        }
        Check.is("4 the fortieth", z.saw(0, 5, 0), 39);
        Palaces.heatAll(z, 20);
        z.pass(10);
        Check.fails("4 forty, thin, none left", REFUSED, () -> z.saw(0, 1, 1));
        Check.is("4 reason 1", Palaces.refusal(z), "1: 40");
    }

    private static void lay() {
        SawnIce x = new SawnIce();
        x.saw(0, 6, 0);
        x.saw(0, 5, 0);
        x.saw(1, 1, 1);
        x.saw(0, 2, 0);
        Check.is("5 on the ground", x.lay(0, 1, 0), 6);
        Check.is("5 out of its rack", x.inRack(0, 0), -1);
        Check.is("5 before it", x.at(0, 0), -1);
        Check.is("5 its first column", x.at(1, 0), 0);
        Check.is("5 its last column", x.at(6, 0), 0);
        Check.is("5 behind it", x.at(7, 0), -1);
        Check.is("5 three of five", x.lay(1, 4, 1), 3);
        Check.is("5 one of one", x.lay(2, 1, 1), 1);
        Check.is("5 half is enough", x.lay(3, 1, 2), 1);
        int top = x.saw(0, 1, 0);
        Check.is("5 up to the course 7", x.lay(top, 1, 3), 1);
        for (int course = 4; course <= 7; course++) {
            Check.is("5 course " + course, x.lay(x.saw(0, 1, 0), 1, course), 1);
        }
        Check.is("5 number on the top", x.at(1, 7), top + 4);
    }

    private static void layRefused() {
        SawnIce x = new SawnIce();
        x.saw(0, 6, 0);
        x.saw(0, 3, 0);
        Check.fails("5 block 2", INDEX, () -> x.lay(2, 0, 0));
        Check.fails("5 block -1", INDEX, () -> x.lay(-1, 0, 0));
        Check.fails("5 column 12", INDEX, () -> x.lay(0, 12, 0));
        Check.fails("5 column -1", INDEX, () -> x.lay(0, -1, 0));
        Check.fails("5 course 8", INDEX, () -> x.lay(0, 0, 8));
        Check.fails("5 course -1", INDEX, () -> x.lay(0, 0, -1));
        Check.fails("5 sticks out", REFUSED, () -> x.lay(0, 10, 0));
        Check.is("5 by four", Palaces.refusal(x), "7: 4");
        Check.is("5 just within", x.lay(0, 6, 0), 6);
        Check.fails("5 not in a rack, and sticks out", REFUSED, () -> x.lay(0, 10, 0));
        Check.is("5 reason 6", Palaces.refusal(x), "6: 0");
        Check.fails("5 column 12 before reason 6", INDEX, () -> x.lay(0, 12, 0));
        Check.fails("5 sticks out, and filled", REFUSED, () -> x.lay(1, 11, 0));
        Check.is("5 by two", Palaces.refusal(x), "7: 2");
        Check.fails("5 filled", REFUSED, () -> x.lay(1, 4, 0));
        Check.is("5 reason 8", Palaces.refusal(x), "8: 0");
        Check.fails("5 one of three", REFUSED, () -> x.lay(1, 4, 1));
        Check.is("5 reason 9", Palaces.refusal(x), "9: 1");
        Check.is("5 two of three", x.lay(1, 5, 1), 2);
        x.saw(0, 3, 0);
        Check.fails("5 in the air", REFUSED, () -> x.lay(2, 0, 7));
        Check.is("5 none", Palaces.refusal(x), "9: 0");
        Check.fails("5 filled, and not supported", REFUSED, () -> x.lay(2, 3, 1));
        Check.is("5 reason 8 before 9", Palaces.refusal(x), "8: 1");
        Check.is("5 still in its rack", x.sign(2), 'r');

        SawnIce y = new SawnIce();
        Palaces.put(y, 0, 1, 3, 0);
        Palaces.put(y, 1, 1, 2, 0);
        y.saw(0, 4, 0);
        Check.fails("5 over two", REFUSED, () -> y.lay(2, 0, 0));
        Check.is("5 the one in the lowest column", Palaces.refusal(y), "8: 1");
    }

    private static void take() {
        SawnIce x = new SawnIce();
        x.saw(0, 4, 0);
        x.saw(1, 2, 1);
        Check.fails("6 block 2", INDEX, () -> x.take(2));
        Check.fails("6 block -1", INDEX, () -> x.take(-1));
        Check.is("6 length", x.take(1), 2);
        Check.is("6 gone", Palaces.signs(x), "rt");
        Check.is("6 free place", x.inRack(1, 0), -1);
        Check.fails("6 again", REFUSED, () -> x.take(1));
        Check.is("6 reason of 1", Palaces.refusal(x), "6: 1");
        x.lay(0, 0, 0);
        Check.fails("6 from the wall", REFUSED, () -> x.take(0));
        Check.is("6 reason of 0", Palaces.refusal(x), "6: 0");
        Check.is("6 the pond gets nothing back", x.account(2), 194);
    }

    private static void pass() {
        SawnIce x = new SawnIce();
        Check.fails("7 none", ARGUMENT, () -> x.pass(0));
        Check.fails("7 too many", ARGUMENT, () -> x.pass(49));
        Check.fails("7 backwards", ARGUMENT, () -> x.pass(-1));
        Check.is("7 without blocks", x.pass(48), 0);
        Check.is("7 clock", x.account(0), 48);
        Check.is("7 one hour", x.pass(1), 0);
        Check.is("7 clock then", x.account(0), 49);
    }

    private static void ice() {
        SawnIce x = new SawnIce();
        x.heat(0, -9);
        x.pass(1);
        Check.is("7 rounded down when it freezes", x.account(1), 21);
        x.heat(1, -4);
        x.pass(1);
        Check.is("7 too little frost", x.account(1), 21);
        x.heat(2, 9);
        x.pass(1);
        Check.is("7 rounded down when it thaws", x.account(1), 20);
        x.heat(3, 0);
        x.pass(1);
        Check.is("7 ice at 0", x.account(1), 20);
        Palaces.heatAll(x, -30);
        x.pass(6);
        Check.is("7 thick", x.account(1), 56);
        x.pass(1);
        Check.is("7 not above 60", x.account(1), 60);
        Palaces.heatAll(x, 18);
        x.pass(19);
        Check.is("7 thin", x.account(1), 3);
        x.heat(x.account(0) % 24, 20);
        x.pass(1);
        Check.is("7 not below 0", x.account(1), 0);
    }

    private static void joints() {
        SawnIce x = new SawnIce();
        Palaces.put(x, 0, 6, 0, 0);
        int racked = x.saw(0, 1, 0);
        x.pass(8);
        Check.is("7 joint grows", x.blockOf(0, 5), 8);
        x.pass(2);
        Check.is("7 joint at most 9", x.blockOf(0, 5), 9);
        Check.is("7 none in a rack", x.blockOf(racked, 5), 0);
        x.lay(racked, 6, 0);
        Check.is("7 none when laid", x.blockOf(racked, 5), 0);
        Palaces.heatAll(x, 5);
        x.pass(1);
        Check.is("7 joint stays at 5", x.blockOf(0, 5), 9);
        Palaces.heatAll(x, 6);
        x.pass(1);
        Check.is("7 joint less at 6", x.blockOf(0, 5), 8);
        Palaces.heatAll(x, 0);
        x.pass(1);
        Check.is("7 joint stays at 0", x.blockOf(0, 5), 8);
        Palaces.heatAll(x, 6);
        x.pass(10);
        Check.is("7 joint not below 0", x.blockOf(0, 5), 0);
    }

    private static void melting() {
        SawnIce x = Palaces.gate();
        x.pass(6);
        Palaces.heatAll(x, 7);
        x.pass(1);
        Check.is("7 in the sun", x.mass(0), 80.0f * (1.0f - (0.01f * 7.0f)));
        Check.is("7 in the shadow", x.mass(1), 80.0f * (1.0f - (0.005f * 7.0f)));
        Check.is("7 above, in the sun", x.mass(2), 120.0f * (1.0f - (0.01f * 7.0f)));
        Palaces.heatAll(x, 0);
        x.pass(13);
        Check.is("7 nothing melts at 0", x.mass(2), 120.0f * (1.0f - (0.01f * 7.0f)));
        Palaces.heatAll(x, 1);
        float mild = x.mass(2);
        x.pass(1);
        Check.is("7 melts at 1", x.mass(2), mild * (1.0f - (0.005f * 1.0f)));
        Palaces.heatAll(x, 20);
        int racked = x.saw(0, 1, 0);
        float rackedMass = x.mass(racked);
        float before = x.mass(2);
        x.pass(1);
        Check.is("7 at night in the shadow", x.mass(2), before * (1.0f - (0.005f * 20.0f)));
        Check.is("7 not in a rack", x.mass(racked), rackedMass);
        x.pass(48);
        Check.is("7 none melts in a rack", x.mass(racked), rackedMass);
    }

    private static void visitors() {
        SawnIce x = new SawnIce();
        Palaces.put(x, 0, 1, 0, 0);
        Palaces.put(x, 0, 1, 0, 1);
        Palaces.put(x, 0, 1, 0, 2);
        int racked = x.saw(0, 1, 0);
        x.visit(3);
        x.pass(1);
        Check.is("7 visitors warm course 0", x.mass(0), 20.0f - (0.1f * 3.0f));
        Check.is("7 visitors warm course 1", x.mass(1), 20.0f - (0.1f * 3.0f));
        Check.is("7 but not course 2", x.mass(2), 20.0f);
        Check.is("7 nor a rack", x.mass(racked), 20.0f);

        SawnIce y = new SawnIce();
        Palaces.put(y, 1, 1, 0, 0);
        y.visit(45);
        y.pass(1);
        Check.is("7 above 1", y.mass(0), 10.0f - (0.1f * 45.0f));
        y.visit(40);
        Check.is("7 above 1 again", y.pass(1), 0);
        y.visit(10);
        Check.is("7 melted in frost", y.pass(1), 1);
        Check.is("7 why", y.blockOf(0, 7), 2);

        SawnIce z = new SawnIce();
        Palaces.put(z, 1, 1, 0, 0);
        z.visit(30);
        z.pass(3);
        Check.is("7 a mass of 1 stays or goes as floats tell", z.sign(0),
                10.0f - (0.1f * 30.0f) - (0.1f * 30.0f) - (0.1f * 30.0f) < 1.0f ? 'm' : 'w');
    }

    private static void order() {
        SawnIce x = new SawnIce();
        Palaces.put(x, 0, 6, 0, 0);
        x.visit(1);
        x.heat(0, 10);
        x.pass(1);
        Check.is("7 melts before visitors warm", x.mass(0), 120.0f * (1.0f - (0.005f * 10.0f)) - (0.1f * 1.0f));
        x.heat(1, 20);
        x.heat(2, -5);
        x.pass(1);
        Check.is("7 each hour has its own temperature", x.account(1), 14);
        x.pass(1);
        Check.is("7 and the next one", x.account(1), 15);
        Check.is("7 the clock", x.account(0), 3);

        // The tower that casts the shadow melts away in this very hour, but its shadow is that of the beginning.
        SawnIce y = new SawnIce();
        Palaces.put(y, 1, 1, 0, 0);
        Palaces.put(y, 1, 1, 0, 1);
        Palaces.put(y, 0, 6, 1, 0);
        y.pass(6);
        y.visit(45);
        y.pass(1);
        y.heat(7, 20);
        y.visit(50);
        Check.is("7 the tower goes", y.pass(1), 2);
        Check.is("7 in its shadow", y.mass(2),
                (120.0f - (0.1f * 45.0f)) * (1.0f - (0.005f * 20.0f)) - (0.1f * 50.0f));
    }

    private static void falling() {
        // A slab from thin ice below, firm enough by its joint until it melts.
        SawnIce x = new SawnIce();
        x.heat(0, 20);
        x.heat(1, 20);
        x.heat(2, 10);
        x.pass(3);
        Palaces.put(x, 0, 1, 5, 0);
        x.pass(9);
        Palaces.put(x, 0, 1, 5, 1);
        Palaces.put(x, 0, 1, 5, 2);
        Palaces.put(x, 0, 6, 6, 0);
        x.visit(46);
        Check.is("7 not yet", x.pass(1), 0);
        Check.is("7 the lowest melts, the others fall", x.pass(1), 3);
        Check.is("7 melted and fallen", Palaces.signs(x), "mffw");
        Check.is("7 columns are free", x.account(11), 6);
        Check.is("7 why it fell", x.blockOf(1, 7), 4);

        // A part of the support goes: 1 of 2 is enough, 1 of 3 is not.
        SawnIce y = new SawnIce();
        Palaces.put(y, 1, 1, 0, 0);
        Palaces.put(y, 0, 1, 1, 0);
        Palaces.put(y, 0, 2, 0, 1);
        Palaces.put(y, 1, 1, 4, 0);
        Palaces.put(y, 0, 1, 5, 0);
        y.saw(1, 3, 1);
        y.pass(9);
        y.lay(5, 4, 1);
        y.visit(47);
        Check.is("7 none yet", y.pass(1), 0);
        Check.is("7 two melt and one falls", y.pass(1), 3);
        Check.is("7 half is enough", Palaces.signs(y), "mwwmwf");

        SawnIce z = new SawnIce();
        z.saw(0, 1, 0);
        Palaces.put(z, 1, 1, 0, 0);
        z.pass(9);
        z.lay(0, 0, 1);
        z.visit(47);
        Check.is("7 the block 0 falls", z.pass(2), 2);
        Check.is("7 fallen and melted", Palaces.signs(z), "fm");
    }

    private static void breaking() {
        SawnIce x = new SawnIce();
        Palaces.heatAll(x, 0);
        Palaces.put(x, 1, 1, 0, 0);
        Palaces.put(x, 1, 1, 1, 0);
        Palaces.put(x, 0, 2, 4, 0);
        Palaces.put(x, 0, 6, 0, 1);
        Check.is("7 nothing breaks when it is laid", Palaces.signs(x), "wwww");
        Check.is("7 its load", x.load(0, false), Palaces.bits(30.0f));
        Check.is("7 what it bears", x.load(0, true), Palaces.bits(20.0f));
        Check.is("7 gone", x.pass(1), 3);
        Check.is("7 one breaks, the other has more and breaks, then it falls", Palaces.signs(x), "bbwf");
        Check.is("7 why it broke", x.blockOf(0, 7), 3);

        SawnIce v = new SawnIce();
        Palaces.put(v, 1, 1, 1, 0);
        Palaces.put(v, 1, 1, 0, 0);
        Palaces.put(v, 0, 4, 0, 1);
        Check.is("7 two have too much", v.load(0, false) - v.load(1, false), 0);
        Check.is("7 but one breaks", v.pass(1), 2);
        Check.is("7 the lowest number", Palaces.signs(v), "bwf");

        // As much as it bears is not too much.
        SawnIce y = new SawnIce();
        Palaces.heatAll(y, 0);
        for (int course = 0; course <= 4; course++) {
            Palaces.put(y, 0, 1, 0, course);
        }
        Check.is("7 load of 80", y.load(0, false), Palaces.bits(80.0f));
        Check.is("7 bears 80", y.load(0, true), Palaces.bits(80.0f));
        Check.is("7 nothing breaks", y.pass(1), 0);
        Palaces.put(y, 0, 1, 0, 5);
        Check.is("7 now it breaks", y.pass(1), 6);
        Check.is("7 and all above fall", Palaces.signs(y), "bfffff");

        // The joint that an hour brings helps in this hour: a wedge of 10 has to bear 30.
        for (int hours = 3; hours <= 4; hours++) {
            SawnIce z = new SawnIce();
            Palaces.put(z, 1, 1, 0, 0);
            Palaces.put(z, 0, 1, 0, 1);
            int top = z.saw(1, 1, 1);
            z.pass(hours);
            z.lay(top, 0, 2);
            Check.is("7 load of 30", z.load(0, false), Palaces.bits(30.0f));
            Check.is("7 with the joint " + (hours + 1), z.pass(1), hours == 3 ? 3 : 0);
        }
    }
}
