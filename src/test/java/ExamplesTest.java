import java.util.NoSuchElementException;

/** The document's examples. */
public final class ExamplesTest {
    public static void main(String[] args) {
        threeBlocks();
        refused();
        withoutBlocks();
        Check.end("ExamplesTest");
    }

    private static void threeBlocks() {
        SawnIce x = new SawnIce();
        Check.is("saw(0, 4, 0)", x.saw(0, 4, 0), 0);
        Check.is("saw(0, 4, 0)", x.saw(0, 4, 0), 1);
        Check.is("saw(0, 6, 0)", x.saw(0, 6, 0), 2);
        Check.is("lay(0, 0, 0)", x.lay(0, 0, 0), 4);
        Check.is("lay(1, 5, 0)", x.lay(1, 5, 0), 4);
        Check.is("lay(2, 2, 1)", x.lay(2, 2, 1), 5);
        Check.is("mass(2)", x.mass(2), 120.0f);
        Check.is("rooms(0, 1)", x.rooms(0, 1), 1);
        Check.is("load(0, false)", x.load(0, false), 1111490560);
        Check.is("loadAgain(0)", x.loadAgain(0), 1111490560);
        Check.is("load(0, true)", x.load(0, true), 1134559232);
        Check.is("isShady(0, 8)", x.isShady(0, 8), false);
        Check.is("isShady(1, 8)", x.isShady(1, 8), true);
        Check.is("heat(12, 20)", x.heat(12, 20), -5);
        Check.is("massBits(2, 13)", x.massBits(2, 13), 1119879168);
        Check.is("safe()", x.safe(), 50);
    }

    private static void refused() {
        SawnIce x = new SawnIce();
        Class<UnsupportedOperationException> refused = UnsupportedOperationException.class;
        Check.fails("saw(1, 3, 0)", refused, () -> x.saw(1, 3, 0));
        Check.is("refusal(false)", x.refusal(false), 5);
        Check.is("saw(1, 3, 1)", x.saw(1, 3, 1), 0);
        Check.fails("lay(0, 10, 0)", refused, () -> x.lay(0, 10, 0));
        Check.is("refusal(true)", x.refusal(true), 1);
        Check.fails("lay(0, 0, 1)", refused, () -> x.lay(0, 0, 1));
        Check.is("refusal(false)", x.refusal(false), 9);
        Check.is("take(0)", x.take(0), 3);
        Check.is("sign(0)", x.sign(0), 't');
        Check.is("blockOf(0, 7)", x.blockOf(0, 7), 1);
        Check.is("account(2)", x.account(2), 197);
    }

    private static void withoutBlocks() {
        SawnIce x = new SawnIce();
        Check.fails("saw(0, 1, 2)", IndexOutOfBoundsException.class, () -> x.saw(0, 1, 2));
        Check.fails("heat(0, 21)", IllegalArgumentException.class, () -> x.heat(0, 21));
        Check.fails("refusal(false)", NoSuchElementException.class, () -> x.refusal(false));
        Check.fails("worst()", NoSuchElementException.class, () -> x.worst());
        Check.fails("read()", IllegalArgumentException.class, () -> x.read());
        Check.is("errorPosition()", x.errorPosition(), 0);
        Check.fails("meanBits()", ArithmeticException.class, () -> x.meanBits());
        Check.fails("undo()", IllegalStateException.class, () -> x.undo());
        Check.fails("restore()", IllegalStateException.class, () -> x.restore());
    }
}
