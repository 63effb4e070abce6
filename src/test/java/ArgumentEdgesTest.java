import java.util.NoSuchElementException;
import java.util.function.Supplier;

/** The least and the greatest argument of each call, those just outside, and the order of the exceptions. */
public final class ArgumentEdgesTest {
    private static final Class<IndexOutOfBoundsException> INDEX = IndexOutOfBoundsException.class;
    private static final Class<IllegalArgumentException> ARGUMENT = IllegalArgumentException.class;
    private static final Class<UnsupportedOperationException> REFUSED = UnsupportedOperationException.class;
    private static final Class<NoSuchElementException> NONE = NoSuchElementException.class;
    private static final Supplier<SawnIce> NEW = SawnIce::new;
    private static final Of[] OF_BLOCKS = {(x, v) -> x.take(v), (x, v) -> x.lay(v, 0, 0), (x, v) -> x.blockOf(v, 1),
        (x, v) -> x.mass(v), (x, v) -> x.load(v, false), (x, v) -> x.load(v, true), (x, v) -> x.loadAgain(v),
        (x, v) -> x.isShady(v, 0), (x, v) -> x.sign(v), (x, v) -> x.massBits(v, 0)};

    interface Of {
        Object answer(SawnIce x, int value);
    }

    public static void main(String[] args) {
        heat();
        visit();
        saw();
        lay();
        take();
        pass();
        blockOf();
        mass();
        load();
        wall();
        isShady();
        sign();
        rooms();
        inRack();
        massBits();
        left();
        account();
        atFortyBlocks();
        withoutBlocks();
        severalApply();
        Check.end("ArgumentEdgesTest");
    }

    /** What is from low to high must not throw this, what is outside must. */
    private static void range(Class<? extends RuntimeException> due, int low, int high, Supplier<SawnIce> from, Of of) {
        int[] outside = {low - 1, high + 1, low - 100, high + 100, Integer.MIN_VALUE, Integer.MAX_VALUE};
        for (int value : outside) {
            Check.fails("of " + value, due, () -> of.answer(from.get(), value));
        }
        for (int value = low; value <= high; value++) {
            int inside = value;
            Object got = Check.outcome(() -> of.answer(from.get(), inside));
            Check.is("of " + value + " throws that", got.equals(due.getName()), false);
        }
    }

    /** 0 is a slab on the wall, 1 a slab in its rack, 2 a wedge that was taken. */
    private static SawnIce three() {
        SawnIce x = new SawnIce();
        Palaces.put(x, 0, 6, 0, 0);
        x.saw(0, 1, 0);
        x.take(x.saw(1, 2, 1));
        return x;
    }

    private static void blocks(int promise, Of of) {
        Doc.promise(promise, "Throws `IndexOutOfBoundsException` if there is no such block");
        range(INDEX, 0, 2, ArgumentEdgesTest::three, of);
    }

    private static void heat() {
        Doc.promise(2, "Throws `IndexOutOfBoundsException` if there is no such hour of the day");
        range(INDEX, 0, 23, NEW, (x, v) -> x.heat(v, 0));
        Doc.promise(2, "Throws `IllegalArgumentException` if the temperature is out of range");
        range(ARGUMENT, -30, 20, NEW, (x, v) -> x.heat(23, v));
    }

    private static void visit() {
        Doc.promise(3, "Throws `IllegalArgumentException` if the number is out of range");
        range(ARGUMENT, 0, 50, NEW, (x, v) -> x.visit(v));
    }

    private static void saw() {
        Doc.promise(4, "Throws `IndexOutOfBoundsException` if there is no such rack");
        range(INDEX, 0, 1, NEW, (x, v) -> x.saw(0, 1, v));
        Doc.promise(4, "Throws `IllegalArgumentException` if the kind or the length is out of range");
        range(ARGUMENT, 0, 1, NEW, (x, v) -> x.saw(v, 1, 0));
        range(ARGUMENT, 1, 6, NEW, (x, v) -> x.saw(0, v, 0));
        range(ARGUMENT, 1, 6, NEW, (x, v) -> x.saw(1, v, 1));
        Doc.promise(4, "as much length is less in the pond as that of the block.");
        for (int length = 1; length <= 6; length++) {
            SawnIce x = new SawnIce();
            x.saw(1, length, 1);
            Check.is("left in the pond", x.account(2), 200 - length);
        }
    }

    private static void lay() {
        Doc.promise(5, "Throws `IndexOutOfBoundsException` if there is no such block, column or course");
        range(INDEX, 0, 2, ArgumentEdgesTest::three, (x, v) -> x.lay(v, 6, 0));
        range(INDEX, 0, 11, ArgumentEdgesTest::three, (x, v) -> x.lay(1, v, 0));
        range(INDEX, 0, 7, ArgumentEdgesTest::three, (x, v) -> x.lay(1, 0, v));
    }

    private static void take() {
        blocks(6, (x, v) -> x.take(v));
        Doc.promise(6, "Returns the length of the block.");
        for (int length = 1; length <= 6; length++) {
            SawnIce x = new SawnIce();
            Check.is("length", x.take(x.saw(0, length, 0)), length);
        }
    }

    private static void pass() {
        Doc.promise(7, "how many, 1 to 48");
        Doc.promise(7, "Throws `IllegalArgumentException` if the number is out of range");
        range(ARGUMENT, 1, 48, ArgumentEdgesTest::three, (x, v) -> x.pass(v));
        Doc.promise(7, "Returns how many blocks are gone by them.");
        SawnIce x = three();
        Check.is("none", x.pass(48), 0);
        x.visit(50);
        int hours = x.goneIn();
        Check.is("not before", x.pass(hours - 1), 0);
        Check.is("one, and none out of a rack", x.pass(48), 1);
        Check.is("none again", x.pass(1), 0);
    }

    private static void blockOf() {
        blocks(8, (x, v) -> x.blockOf(v, 0));
        Doc.promise(8, "Throws `IllegalArgumentException` if what is not from 0 to 7");
        for (int block = 0; block <= 2; block++) {
            int one = block;
            range(ARGUMENT, 0, 7, ArgumentEdgesTest::three, (x, v) -> x.blockOf(one, v));
        }
        Doc.promise(8, "3 for its first column, -1 if it is not on the wall, 4 for its course, -1 if it is not on the"
                + " wall, 5 for its joint, 0 if it is not on the wall, 6 for the place in its rack, -1 if it is in"
                + " none, 7 for why it is gone: 0 if it is not");
        String[] due = {"0 6 1 0 0 1 -1 0", "0 1 0 -1 -1 0 0 0", "1 2 2 -1 -1 0 -1 1"};
        SawnIce x = three();
        x.pass(1);
        for (int block = 0; block <= 2; block++) {
            StringBuilder got = new StringBuilder();
            for (int what = 0; what <= 7; what++) {
                got.append(what == 0 ? "" : " ").append(x.blockOf(block, what));
            }
            Check.is("block " + block, got.toString(), due[block]);
        }
        Doc.promise(8, "0 if it is not, 1 it was taken, 2 it melted, 3 it broke, 4 it fell");
        SawnIce y = new SawnIce();
        y.take(y.saw(0, 1, 0));
        Palaces.put(y, 0, 1, 9, 0);
        Palaces.put(y, 1, 1, 0, 0);
        Palaces.put(y, 0, 2, 0, 1);
        y.visit(49);
        Check.is("broken and fallen", y.pass(1), 2);
        Check.is("melted", y.pass(48), 1);
        String[] numbers = {"2 -1 -1 0 -1 1", "2 -1 -1 0 -1 2", "2 -1 -1 0 -1 3", "2 -1 -1 0 -1 4"};
        for (int block = 0; block <= 3; block++) {
            StringBuilder got = new StringBuilder();
            for (int what = 2; what <= 7; what++) {
                got.append(what == 2 ? "" : " ").append(y.blockOf(block, what));
            }
            Check.is("gone " + block, got.toString(), numbers[block]);
            Check.is("keeps its kind and its length", y.blockOf(block, 0) * 10 + y.blockOf(block, 1),
                    new int[] {1, 1, 11, 2}[block]);
        }
    }

    private static void mass() {
        blocks(9, (x, v) -> x.mass(v));
        Doc.promise(9, "Throws `NoSuchElementException` if it is gone");
        Check.fails("taken", NONE, () -> three().mass(2));
        Check.is("on the wall", three().mass(0), 120.0f);
        Check.is("in a rack", three().mass(1), 20.0f);
    }

    private static void load() {
        blocks(10, (x, v) -> x.load(v, false));
        blocks(10, (x, v) -> x.load(v, true));
        Doc.promise(10, "Throws `NoSuchElementException` if it is not on the wall");
        for (boolean isBorne : new boolean[] {false, true}) {
            Check.fails("in a rack", NONE, () -> three().load(1, isBorne));
            Check.fails("taken", NONE, () -> three().load(2, isBorne));
        }
        blocks(11, (x, v) -> x.loadAgain(v));
        Doc.promise(11, "Throws `NoSuchElementException` if it is not on the wall");
        Check.fails("in a rack", NONE, () -> three().loadAgain(1));
        Check.fails("taken", NONE, () -> three().loadAgain(2));
    }

    private static void wall() {
        Doc.promise(12, "Throws `IndexOutOfBoundsException` if there is no such column or course");
        range(INDEX, 0, 11, ArgumentEdgesTest::three, (x, v) -> x.at(v, 0));
        range(INDEX, 0, 11, ArgumentEdgesTest::three, (x, v) -> x.at(v, 7));
        range(INDEX, 0, 7, ArgumentEdgesTest::three, (x, v) -> x.at(0, v));
        range(INDEX, 0, 7, ArgumentEdgesTest::three, (x, v) -> x.at(11, v));
        Doc.promise(12, "Returns the block, or -1.");
        Check.is("the block 0, last column", three().at(5, 0), 0);
        Check.is("beside it", three().at(6, 0), -1);
        Check.is("over it", three().at(5, 1), -1);
        Doc.promise(13, "Throws `IndexOutOfBoundsException` if there is no such column");
        range(INDEX, 0, 11, ArgumentEdgesTest::three, (x, v) -> x.height(v));
    }

    private static void isShady() {
        Doc.promise(14, "Throws `IndexOutOfBoundsException` if there is no such block or hour of the day");
        range(INDEX, 0, 2, ArgumentEdgesTest::three, (x, v) -> x.isShady(v, 23));
        range(INDEX, 0, 23, ArgumentEdgesTest::three, (x, v) -> x.isShady(0, v));
        Doc.promise(14, "Throws `NoSuchElementException` if the block is not on the wall");
        for (int hour : new int[] {0, 6, 12, 23}) {
            Check.fails("in a rack", NONE, () -> three().isShady(1, hour));
            Check.fails("taken", NONE, () -> three().isShady(2, hour));
        }
    }

    private static void sign() {
        blocks(15, (x, v) -> x.sign(v));
        Doc.promise(15, "Returns \"r\" in a rack, \"w\" on the wall, \"t\" taken, \"m\" melted, \"b\" broken, \"f\""
                + " fallen.");
        SawnIce x = new SawnIce();
        x.saw(0, 1, 0);
        Palaces.put(x, 0, 1, 11, 0);
        x.take(x.saw(1, 1, 1));
        Palaces.put(x, 1, 1, 0, 0);
        x.visit(50);
        x.pass(2);
        x.visit(0);
        Palaces.put(x, 1, 1, 0, 0);
        Palaces.put(x, 0, 2, 0, 1);
        x.pass(1);
        Check.is("all of them", Palaces.signs(x), "rwtmbf");
    }

    private static void rooms() {
        Doc.promise(16, "Throws `IndexOutOfBoundsException` if there is no such course");
        range(INDEX, 0, 7, Palaces::gate, (x, v) -> x.rooms(v, 0));
        Doc.promise(16, "Throws `IllegalArgumentException` if what is not from 0 to 2");
        range(ARGUMENT, 0, 2, Palaces::gate, (x, v) -> x.rooms(7, v));
        range(ARGUMENT, 0, 2, Palaces::gate, (x, v) -> x.rooms(0, v));
    }

    private static void inRack() {
        Doc.promise(17, "Throws `IndexOutOfBoundsException` if there is no such rack or place");
        range(INDEX, 0, 1, ArgumentEdgesTest::three, (x, v) -> x.inRack(v, 4));
        range(INDEX, 0, 4, ArgumentEdgesTest::three, (x, v) -> x.inRack(0, v));
        range(INDEX, 0, 4, ArgumentEdgesTest::three, (x, v) -> x.inRack(1, v));
        Doc.promise(17, "Returns the block, or -1.");
        Check.is("a block", three().inRack(0, 0), 1);
        Check.is("none", three().inRack(1, 0), -1);
        SawnIce x = new SawnIce();
        x.saw(1, 1, 1);
        Check.is("the block 0", x.inRack(1, 0), 0);
    }

    private static void massBits() {
        blocks(20, (x, v) -> x.massBits(v, 0));
        Doc.promise(20, "Throws `IllegalArgumentException` if the number is out of range");
        for (int block = 0; block <= 2; block++) {
            int one = block;
            range(ARGUMENT, 0, 48, ArgumentEdgesTest::three, (x, v) -> x.massBits(one, v));
        }
    }

    private static void left() {
        Doc.promise(22, "how many, 0 to 48");
        Doc.promise(22, "Throws `IllegalArgumentException` if the number is out of range");
        range(ARGUMENT, 0, 48, ArgumentEdgesTest::three, (x, v) -> x.left(v));
    }

    private static void account() {
        Doc.promise(27, "Throws `IllegalArgumentException` if what is not from 0 to 14");
        range(ARGUMENT, 0, 14, ArgumentEdgesTest::three, (x, v) -> x.account(v));
    }

    private static void atFortyBlocks() {
        Doc.promise(8, "Throws `IndexOutOfBoundsException` if there is no such block");
        Supplier<SawnIce> forty = () -> {
            SawnIce x = new SawnIce();
            for (int i = 0; i < 40; i++) {
                x.take(x.saw(0, 1, 0));
            }
            return x;
        };
        for (Of call : OF_BLOCKS) {
            range(INDEX, 0, 39, forty, call);
        }
    }

    private static void withoutBlocks() {
        Doc.promise(5, "Throws `IndexOutOfBoundsException` if there is no such block, column or course");
        for (Of call : OF_BLOCKS) {
            for (int block = -1; block <= 40; block++) {
                int one = block;
                Check.fails("no block " + block, INDEX, () -> call.answer(new SawnIce(), one));
            }
        }
    }

    private static void severalApply() {
        Doc.terms("If several exceptions apply, the one that is documented first is thrown.");
        SawnIce x = three();
        Check.fails("heat: hour and temperature", INDEX, () -> x.heat(24, 21));
        Check.fails("saw: rack and kind", INDEX, () -> x.saw(2, 1, 2));
        Check.fails("saw: rack and length", INDEX, () -> x.saw(0, 7, -1));
        Check.fails("lay: block, which is gone, and column", INDEX, () -> x.lay(2, 12, 0));
        Check.fails("lay: block, which is gone, and course", INDEX, () -> x.lay(2, 0, 8));
        Check.fails("lay: block on the wall, and course", INDEX, () -> x.lay(0, 0, -1));
        Check.fails("lay: sticks out, and course", INDEX, () -> x.lay(0, 11, 8));
        Check.fails("blockOf: block and what", INDEX, () -> x.blockOf(3, 8));
        Check.fails("isShady: not on the wall, and hour", INDEX, () -> x.isShady(1, 24));
        Check.fails("rooms: course and what", INDEX, () -> x.rooms(8, 3));
        Check.fails("massBits: block and hours", INDEX, () -> x.massBits(3, 49));
        Check.fails("massBits: gone, and hours", ARGUMENT, () -> x.massBits(2, 49));
        Check.fails("nothing was refused by any of them", NONE, () -> x.refusal(false));
        sawWithMore();
    }

    private static void sawWithMore() {
        SawnIce x = new SawnIce();
        for (int i = 0; i < 40; i++) {
            x.take(x.saw(0, 5, 0));
        }
        Check.fails("saw: rack and reason 1", INDEX, () -> x.saw(0, 1, 2));
        Check.fails("saw: kind and reason 1", ARGUMENT, () -> x.saw(2, 1, 0));
        Check.fails("saw: length and reason 1", ARGUMENT, () -> x.saw(0, 7, 0));
        SawnIce y = Palaces.iceOf(9);
        Check.fails("saw: kind and reason 2", ARGUMENT, () -> y.saw(-1, 1, 0));
        Check.fails("saw: length 0 and reason 2", ARGUMENT, () -> y.saw(0, 0, 0));
        SawnIce z = new SawnIce();
        Check.fails("saw: length and reason 5", ARGUMENT, () -> z.saw(1, 0, 0));
        for (int i = 0; i < 5; i++) {
            z.saw(0, 1, 0);
        }
        Check.fails("saw: kind and reason 4", ARGUMENT, () -> z.saw(2, 1, 0));
        for (SawnIce one : new SawnIce[] {x, y, z}) {
            Check.fails("nothing was refused", NONE, () -> one.refusal(true));
        }
        Check.fails("saw: reason 4 alone", REFUSED, () -> z.saw(0, 1, 0));
        Check.is("and now it was", Palaces.refusal(z), "4: 0");
    }
}
