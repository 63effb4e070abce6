import java.util.NoSuchElementException;

/** Promises 23 to 32: texts, accounts, undo and snapshot. */
public final class TextsTest {
    private static final Class<IllegalArgumentException> ARGUMENT = IllegalArgumentException.class;
    private static final Class<UnsupportedOperationException> REFUSED = UnsupportedOperationException.class;
    private static final Class<IllegalStateException> STATE = IllegalStateException.class;
    private static final Class<NoSuchElementException> NONE = NoSuchElementException.class;

    public static void main(String[] args) {
        append();
        read();
        readOutOfRange();
        readRefused();
        readAsOneChange();
        errorPosition();
        refusal();
        account();
        isWell();
        meanBits();
        undo();
        undoForgets();
        save();
        restore();
        Check.end("TextsTest");
    }

    private static void append() {
        SawnIce x = new SawnIce();
        Check.is("23 first", x.append('s'), 1);
        Check.is("23 any character", x.append((char) 233), 2);
        for (int n = 3; n <= 60; n++) {
            Check.is("23 " + n, x.append((char) 0), n);
        }
        Check.fails("23 full", STATE, () -> x.append('s'));
        Check.fails("23 still full", STATE, () -> x.append('s'));
        Check.is("23 unchanged", x.account(13), 60);
        Check.fails("23 read empties it", ARGUMENT, () -> x.read());
        Check.is("23 empty", x.account(13), 0);
        Check.is("23 first again", x.append('h'), 1);
    }

    private static void read() {
        SawnIce x = new SawnIce();
        Check.is("24 each order", Palaces.read(x, "s06@0;s13@1;l0@0/0;v7;t5=-30;t06=20;h2"), 7);
        Check.is("24 empty afterwards", x.account(13), 0);
        Check.is("24 sawn and laid", Palaces.signs(x), "wr");
        Check.is("24 kind and length", x.blockOf(1, 0) * 10 + x.blockOf(1, 1), 13);
        Check.is("24 visitors", x.account(3), 7);
        Check.is("24 temperature of 5", x.heat(5, 0), -30);
        Check.is("24 temperature of 6", x.heat(6, 0), 20);
        Check.is("24 hours", x.account(0), 2);
        Check.is("24 one order", Palaces.read(x, "l01@06/0"), 1);
        Check.is("24 two digits with a 0", x.at(6, 0), 1);
        x.visit(0);
        Check.is("24 two digits", Palaces.read(x, "s01@0;l2@11/0;t23=-05;h48;v50"), 5);
        Check.is("24 laid at 11", x.at(11, 0), 2);
        Check.is("24 48 hours", x.account(0), 50);
        Check.is("24 minus 0", Palaces.read(x, "t0=-0"), 1);
        Check.is("24 is 0", x.heat(0, 0), 0);
        StringBuilder longest = new StringBuilder("v10");
        for (int i = 0; i < 19; i++) {
            longest.append(";v").append(i % 10);
        }
        Check.is("24 sixty characters", Palaces.read(x, longest.toString()), 20);
        Check.is("24 the last one counts", x.account(3), 8);
    }

    private static void readOutOfRange() {
        String[] texts = {"s21@0", "s00@0", "s07@0", "s01@2", "l0@0/0", "l99@0/0", "h0", "h49", "h99", "v51", "v99",
            "t24=0", "t0=21", "t0=-31", "t99=99", "v3;h0", "s01@0;l0@12/0", "s01@0;l0@0/8", "s01@0;l1@0/0"};
        for (String text : texts) {
            SawnIce x = new SawnIce();
            String before = Palaces.all(x);
            Check.fails("24 " + text, ARGUMENT, () -> Palaces.read(x, text));
            Check.is("24 no error position of " + text, x.errorPosition(), -1);
            Check.is("24 nothing is done of " + text, Palaces.all(x), before);
            Check.is("24 no change by " + text, x.account(14), 0);
            Check.is("24 input is empty after " + text, x.account(13), 0);
            Check.fails("24 no refusal by " + text, NONE, () -> x.refusal(false));
        }
    }

    private static void readRefused() {
        String[][] cases = {{"s11@0", "5: 0"}, {"v5;s01@0;l0@0/1;h0", "9: 0"}, {"s06@0;l0@7/0", "7: 1"},
            {"s01@0;l0@3/0;l0@3/0", "6: 0"}, {"s01@0;s01@0;l1@4/0;l0@4/0", "8: 1"},
            {"s01@0;s01@0;s01@0;s01@0;s01@0;s01@0", "4: 0"}, {"t0=20;t1=20;t2=15;h3;s01@0", "2: 9"}};
        for (String[] one : cases) {
            SawnIce x = new SawnIce();
            String before = Palaces.all(x);
            Check.fails("24 " + one[0], REFUSED, () -> Palaces.read(x, one[0]));
            Check.is("24 reason of " + one[0], Palaces.refusal(x), one[1]);
            Check.is("24 nothing is done of " + one[0], Palaces.all(x), before);
            Check.is("24 no change by " + one[0], x.account(14), 0);
            Check.is("24 no error position of " + one[0], x.errorPosition(), -1);
            Check.is("24 input is empty after " + one[0], x.account(13), 0);
        }
        SawnIce x = new SawnIce();
        Check.fails("24 the first decides: refused", REFUSED, () -> Palaces.read(x, "s11@0;h0"));
        Check.fails("24 the first decides: argument", ARGUMENT, () -> Palaces.read(x, "h0;s01@1"));
        Check.is("24 the earlier reason stays", Palaces.refusal(x), "5: 0");
        Check.fails("24 an error goes before all", ARGUMENT, () -> Palaces.read(x, "s01@1;"));
        Check.is("24 the reason stays", Palaces.refusal(x), "5: 0");
    }

    private static void readAsOneChange() {
        SawnIce x = new SawnIce();
        x.visit(3);
        String before = Palaces.all(x);
        Palaces.read(x, "s06@0;l0@0/0;h5;v9");
        Check.is("24 is one change", x.account(14), 2);
        Check.is("24 undone", x.undo(), 1);
        Check.is("24 wholly undone", Palaces.all(x), before);
    }

    private static void errorPosition() {
        SawnIce x = new SawnIce();
        Check.is("25 before read", x.errorPosition(), -1);
        String[] texts = {"", "x", "s", "s0", "s01", "s01@", "s0 ", "s01a", "s01@x", "s01@00", "l", "l@", "l0", "l123",
            "l12@", "l1@/", "l1@12", "l1@123", "l1@12/", "l1@2/x", "l1@2/33", "h", "hx", "h123", "h1x", "v", "v-1",
            "t", "t0", "t012", "t0=", "t0=-", "t0=--1", "t0=+1", "t0=123", "t0=-123", "t=1", "v1;", "v1;;", ";v1",
            "v1,v2", "v1;s01@0;q", "V1", " v1", "v1 ", "v\u00b2", "v1;h", "s012@0"};
        int[] due = {0, 0, 1, 2, 3, 4, 2, 3, 4, 5, 1, 1, 2, 3,
            4, 3, 5, 5, 6, 5, 6, 1, 1, 3, 2, 1, 1,
            1, 2, 3, 3, 4, 4, 3, 5, 6, 1, 3, 3, 0,
            2, 9, 0, 0, 2, 1, 4, 3};
        Check.is("25 as many", due.length, texts.length);
        for (int i = 0; i < texts.length; i++) {
            String text = texts[i];
            Check.fails("25 error in " + text, ARGUMENT, () -> Palaces.read(x, text));
            Check.is("25 position in " + text, x.errorPosition(), due[i]);
        }
        x.visit(1);
        x.append('v');
        Check.is("25 of the latest read", x.errorPosition(), 3);
        x.undo();
        x.save();
        x.restore();
        Check.is("25 stays", x.errorPosition(), 3);
        x.append('1');
        Check.is("25 input stays too", x.read(), 1);
        Check.is("25 none", x.errorPosition(), -1);
        Palaces.type(x, "v1;v1;v1;v1;v1;v1;v1;v1;v1;v1;v1;v1;v1;v1;v1;v1;v1;v1;v1;v1;");
        Check.fails("25 sixty characters", ARGUMENT, () -> x.read());
        Check.is("25 behind the last one", x.errorPosition(), 60);
        Check.is("25 nothing is done", x.account(14), 1);
    }

    private static void refusal() {
        SawnIce x = new SawnIce();
        Check.fails("26 no reason", NONE, () -> x.refusal(false));
        Check.fails("26 no detail", NONE, () -> x.refusal(true));
        Check.fails("26 wrong arguments", ARGUMENT, () -> x.saw(0, 9, 0));
        Check.fails("26 are no refusal", NONE, () -> x.refusal(false));
        Check.fails("26 refused", REFUSED, () -> x.saw(0, 1, 1));
        Check.is("26 reason", x.refusal(false), 5);
        Check.is("26 detail", x.refusal(true), 1);
        x.saw(0, 1, 0);
        x.undo();
        Check.is("26 stays", Palaces.refusal(x), "5: 1");
        x.saw(0, 6, 0);
        Check.fails("26 refused again", REFUSED, () -> x.lay(0, 8, 0));
        Check.is("26 the latest", Palaces.refusal(x), "7: 2");
        x.save();
        x.restore();
        Check.is("26 is not restored", Palaces.refusal(x), "7: 2");
    }

    private static void account() {
        SawnIce x = new SawnIce();
        Palaces.heatAll(x, 0);
        x.saw(0, 1, 0);
        x.saw(1, 1, 1);
        x.take(x.saw(1, 2, 1));
        x.take(x.saw(1, 2, 1));
        x.take(x.saw(1, 2, 1));
        Palaces.put(x, 1, 1, 11, 0);
        Palaces.put(x, 1, 1, 10, 0);
        x.visit(50);
        x.pass(2);
        x.visit(0);
        Palaces.put(x, 1, 1, 0, 0);
        for (int course = 1; course <= 3; course++) {
            Palaces.put(x, 0, 1, 0, course);
        }
        Palaces.put(x, 0, 6, 1, 0);
        x.pass(1);
        Palaces.put(x, 0, 4, 3, 1);
        x.visit(31);
        x.heat(3, -17);
        Palaces.type(x, "s0");
        int[] due = {3, 20, 200 - 1 - 1 - 6 - 2 - 4 - 6 - 4, 31, 13, 2, 2, 3, 2, 1, 3, 10, -17, 2, 8};
        for (int what = 0; what < due.length; what++) {
            Check.is("27 account(" + what + ")", x.account(what), due[what]);
        }
        Check.fails("27 what 15", ARGUMENT, () -> x.account(15));
        Check.fails("27 what -1", ARGUMENT, () -> x.account(-1));
        SawnIce y = new SawnIce();
        y.saw(0, 6, 0);
        y.take(0);
        Check.is("27 the block 0 taken", y.account(7), 1);
        SawnIce z = new SawnIce();
        Palaces.put(z, 0, 6, 0, 0);
        Check.is("27 the block 0 on the wall", z.account(11), 6);
        x.pass(21);
        x.heat(0, 11);
        Check.is("27 the temperature of the hour of the day", x.account(12), 11);
        Check.is("27 the clock goes on", x.account(0), 24);
    }

    private static void isWell() {
        SawnIce x = new SawnIce();
        Check.is("28 a new object", x.isWell(), true);
        x.heat(2, 20);
        x.visit(2);
        Palaces.put(x, 0, 3, 0, 0);
        Palaces.put(x, 1, 5, 3, 0);
        Palaces.put(x, 0, 4, 8, 0);
        Palaces.put(x, 0, 5, 2, 1);
        Palaces.put(x, 1, 3, 7, 1);
        Palaces.put(x, 0, 6, 3, 2);
        x.take(x.saw(0, 1, 0));
        x.saw(1, 1, 1);
        Check.is("28 with blocks", x.isWell(), true);
        for (int i = 0; i < 10; i++) {
            x.pass(7);
            Check.is("28 after hours", x.isWell(), true);
        }
        x.undo();
        Check.is("28 undone", x.isWell(), true);
    }

    private static void meanBits() {
        SawnIce x = new SawnIce();
        Class<ArithmeticException> none = ArithmeticException.class;
        Check.fails("29 empty wall", none, () -> x.meanBits());
        x.saw(0, 1, 0);
        Check.fails("29 in a rack only", none, () -> x.meanBits());
        Palaces.put(x, 0, 6, 0, 0);
        Check.is("29 one", x.meanBits(), Double.doubleToLongBits(120.0));
        Palaces.put(x, 1, 1, 6, 0);
        Palaces.put(x, 0, 4, 7, 0);
        Check.is("29 three", x.meanBits(), Double.doubleToLongBits((0.0 + 120.0 + 10.0 + 80.0) / 3.0));
        SawnIce y = new SawnIce();
        Palaces.put(y, 0, 3, 0, 0);
        Palaces.put(y, 1, 1, 3, 0);
        Check.is("29 the block 0 too", y.meanBits(), Double.doubleToLongBits(35.0));
        x.visit(7);
        x.heat(0, 13);
        for (int i = 0; i < 6; i++) {
            x.pass(1);
            double sum = 0.0;
            int number = 0;
            for (int block = 1; block <= 3; block++) {
                if (x.sign(block) == 'w') {
                    sum = sum + (double) x.mass(block);
                    number++;
                }
            }
            Check.is("29 after " + (i + 1), x.meanBits(), Double.doubleToLongBits(sum / (double) number));
        }
    }

    private static void undo() {
        SawnIce x = new SawnIce();
        Check.fails("30 no change", STATE, () -> x.undo());
        for (int made = 0; made <= 8; made++) {
            SawnIce y = changed(8);
            for (int left = 7; left >= made; left--) {
                Check.is("30 left", y.undo(), left);
            }
            Check.is("30 as before " + made, Palaces.all(y), Palaces.all(changed(made)));
        }
        SawnIce z = changed(8);
        for (int left = 7; left >= 0; left--) {
            z.undo();
        }
        Check.fails("30 no more", STATE, () -> z.undo());
        Check.is("30 the temperature too", z.heat(3, 0), -5);
    }

    /** An object on which as many of eight changes were made. */
    private static SawnIce changed(int number) {
        SawnIce x = new SawnIce();
        Runnable[] changes = {() -> x.heat(0, -5), () -> x.visit(0), () -> x.saw(0, 4, 0), () -> x.saw(1, 1, 1),
            () -> x.lay(0, 3, 0), () -> x.take(1), () -> x.pass(30), () -> Palaces.read(x, "s01@0;v1;t3=3")};
        for (int i = 0; i < number; i++) {
            changes[i].run();
            Check.is("30 changes", x.account(14), i + 1);
        }
        return x;
    }

    private static void undoForgets() {
        SawnIce x = new SawnIce();
        for (int i = 1; i <= 11; i++) {
            x.visit(i);
        }
        Check.is("30 eight at most", x.account(14), 8);
        Check.fails("30 no change by a wrong one", ARGUMENT, () -> x.visit(51));
        Check.fails("30 nor by a refused one", REFUSED, () -> x.saw(0, 1, 1));
        x.append('v');
        Check.fails("30 nor by an error", ARGUMENT, () -> x.read());
        x.save();
        x.safe();
        Check.is("30 still eight", x.account(14), 8);
        for (int i = 7; i >= 0; i--) {
            Check.is("30 left", x.undo(), i);
            Check.is("30 visitors", x.account(3), 3 + i);
        }
        Check.fails("30 the earliest are forgotten", STATE, () -> x.undo());
        Check.is("30 unchanged then", x.account(3), 3);
        x.visit(40);
        x.visit(41);
        x.undo();
        x.visit(42);
        Check.is("30 undone and changed", x.undo(), 1);
        Check.is("30 back", x.account(3), 40);
        Check.is("30 and back", x.undo(), 0);
        Check.is("30 to the start", x.account(3), 3);
        x.append('v');
        x.visit(5);
        x.undo();
        Check.is("30 the input stays", x.account(13), 1);
    }

    private static void save() {
        SawnIce x = new SawnIce();
        Check.is("31 none sawn", x.save(), 0);
        x.saw(0, 4, 0);
        x.take(x.saw(1, 2, 1));
        Check.is("31 two sawn", x.save(), 2);
        Check.is("31 is no change", x.account(14), 3);
        String saved = Palaces.all(x);
        x.lay(0, 0, 0);
        x.pass(48);
        Check.is("31 in place of the earlier one", x.restore(), 2);
        Check.is("31 as saved", Palaces.all(x), saved);
    }

    private static void restore() {
        SawnIce x = new SawnIce();
        Check.fails("32 no snapshot", STATE, () -> x.restore());
        x.visit(4);
        x.heat(7, 7);
        Palaces.put(x, 0, 4, 0, 0);
        x.saw(1, 3, 1);
        x.pass(3);
        String saved = Palaces.all(x);
        Check.is("32 saved", x.save(), 2);
        Palaces.put(x, 0, 6, 0, 1);
        x.take(1);
        x.visit(50);
        x.heat(7, 8);
        x.pass(48);
        x.append('q');
        Check.is("32 sawn", x.restore(), 2);
        Check.is("32 all as it was", Palaces.all(x), saved);
        Check.is("32 nothing to undo", x.account(14), 0);
        Check.fails("32 all is forgotten", STATE, () -> x.undo());
        Check.is("32 the input stays", x.account(13), 1);
        Check.is("32 the temperature too", x.heat(7, 9), 7);
        x.pass(20);
        Check.is("32 the snapshot stays", x.restore(), 2);
        Check.is("32 all as it was again", Palaces.all(x), saved);
        x.visit(1);
        Check.is("32 changes count anew", x.undo(), 0);
        Check.is("32 and go back", x.account(3), 4);
    }
}
