import java.util.NoSuchElementException;

/** Promises 19 to 22: what comes ahead. */
public final class AheadTest {
    private static final Class<IndexOutOfBoundsException> INDEX = IndexOutOfBoundsException.class;
    private static final Class<IllegalArgumentException> ARGUMENT = IllegalArgumentException.class;
    private static final Class<NoSuchElementException> NONE = NoSuchElementException.class;

    public static void main(String[] args) {
        goneIn();
        massBits();
        safe();
        unsafe();
        left();
        nothingChanges();
        Check.end("AheadTest");
    }

    /** A slab on the ground, in frost and with visitors. */
    private static SawnIce warmed(int length, int visitors) {
        SawnIce x = new SawnIce();
        Palaces.put(x, 0, length, 0, 0);
        x.visit(visitors);
        return x;
    }

    /** In how many hours a slab of this mass on the ground melts in frost. */
    private static int hoursOf(float mass, int visitors) {
        float left = mass;
        int hours = 0;
        while (left >= 1.0f) {
            left = left - (0.1f * (float) visitors);
            hours++;
        }
        return hours;
    }

    private static void goneIn() {
        SawnIce x = new SawnIce();
        Check.fails("19 empty wall", NONE, () -> x.goneIn());
        x.saw(0, 1, 0);
        Check.fails("19 in a rack only", NONE, () -> x.goneIn());
        x.lay(0, 0, 0);
        Check.fails("19 none in 96 hours", NONE, () -> x.goneIn());
        x.visit(50);
        Check.is("19 melts", x.goneIn(), hoursOf(20.0f, 50));
        x.visit(30);
        Check.is("19 melts later", x.goneIn(), hoursOf(20.0f, 30));
        SawnIce y = warmed(2, 4);
        Check.is("19 in 98", hoursOf(40.0f, 4), 98);
        Check.fails("19 98 are too many", NONE, () -> y.goneIn());
        y.pass(1);
        Check.fails("19 97 are too many", NONE, () -> y.goneIn());
        y.pass(1);
        Check.is("19 then 96", y.goneIn(), 96);
        y.pass(48);
        Check.is("19 then 48", y.goneIn(), 48);
        SawnIce z = new SawnIce();
        Palaces.put(z, 1, 1, 0, 0);
        Palaces.put(z, 0, 1, 0, 1);
        Palaces.put(z, 0, 1, 0, 2);
        Check.is("19 breaks at once", z.goneIn(), 1);
    }

    private static void massBits() {
        SawnIce x = Palaces.gate();
        int racked = x.saw(1, 1, 1);
        x.take(x.saw(1, 1, 1));
        x.heat(6, 20);
        x.heat(13, 10);
        x.visit(3);
        float mass = 120.0f;
        for (int hours = 0; hours <= 48; hours++) {
            Check.is("20 after " + hours, x.massBits(2, hours), Palaces.bits(mass));
            int hour = hours % 24;
            if (hour == 6) {
                mass = mass * (1.0f - (0.01f * 20.0f));
            }
            if (hour == 13) {
                mass = mass * (1.0f - (0.01f * 10.0f));
            }
            mass = mass - (0.1f * 3.0f);
        }
        Check.is("20 in a rack", x.massBits(racked, 48), Palaces.bits(10.0f));
        Check.is("20 is gone", x.massBits(racked + 1, 0), -1);
        x.visit(50);
        int hours = hoursOf(80.0f, 50);
        x.heat(6, -5);
        x.heat(13, -5);
        Check.is("20 not yet gone", x.massBits(0, hours - 1) > 0, true);
        Check.is("20 would be gone", x.massBits(0, hours), -1);
        Check.fails("20 block 5", INDEX, () -> x.massBits(5, 0));
        Check.fails("20 block -1, with wrong hours too", INDEX, () -> x.massBits(-1, 49));
        Check.fails("20 hours 49", ARGUMENT, () -> x.massBits(0, 49));
        Check.fails("20 hours -1", ARGUMENT, () -> x.massBits(0, -1));
    }

    private static void safe() {
        SawnIce x = new SawnIce();
        Check.is("21 empty wall", x.safe(), 50);
        x.visit(7);
        x.saw(0, 1, 0);
        Check.is("21 in a rack only", x.safe(), 50);
        x.lay(0, 0, 0);
        // At 0 the hour 12 is over in 13 hours, at 12 in 1, at 13 in 24.
        int[] clocks = {0, 1, 11, 12, 13, 14, 23, 24, 35, 36, 37};
        for (int clock : clocks) {
            SawnIce y = new SawnIce();
            y.saw(0, 1, 0);
            if (clock > 0) {
                y.pass(clock);
            }
            y.lay(0, 0, 0);
            int hours = (12 - clock % 24 + 24) % 24 + 1;
            int due = 50;
            while (hoursOf(20.0f, due) <= hours) {
                due--;
            }
            Check.is("21 safe at " + clock, y.safe(), due);
        }
        // The hour 12 itself counts, and what is hot behind it does not.
        SawnIce z = new SawnIce();
        z.saw(1, 1, 1);
        z.pass(11);
        z.lay(0, 0, 0);
        int cold = z.safe();
        Check.is("21 two hours", 10.0f - (0.1f * cold) - (0.1f * cold) >= 1.0f && cold > 40, true);
        z.heat(13, 20);
        Check.is("21 hot behind it", z.safe(), cold);
        z.heat(12, 20);
        Check.is("21 hot in it", z.safe(), 38);
        z.heat(12, -5);
        z.visit(50);
        Check.is("21 as if there were others", z.safe(), cold);
    }

    private static void unsafe() {
        SawnIce x = new SawnIce();
        Palaces.put(x, 1, 1, 0, 0);
        Palaces.put(x, 0, 1, 0, 1);
        Palaces.put(x, 0, 1, 0, 2);
        Check.fails("21 it breaks with any number", NONE, () -> x.safe());

        // The wedge bears just its load; any visitor makes it bear less.
        SawnIce y = new SawnIce();
        Palaces.heatAll(y, 0);
        Palaces.put(y, 0, 2, 0, 0);
        Palaces.put(y, 1, 1, 0, 1);
        Palaces.put(y, 0, 1, 0, 2);
        Check.is("21 only without visitors", y.safe(), 0);

        // Fewer than 25 visitors leave the six slabs too heavy for the wedge, more than 40 melt the small one.
        SawnIce z = new SawnIce();
        Palaces.heatAll(z, 0);
        Palaces.put(z, 1, 1, 11, 0);
        z.visit(50);
        z.pass(1);
        z.visit(0);
        z.pass(11);
        Palaces.put(z, 1, 6, 0, 0);
        for (int column = 0; column < 6; column++) {
            Palaces.put(z, 0, 1, column, 1);
        }
        Palaces.put(z, 1, 1, 0, 2);
        Check.is("21 more than it bears", z.left(1) < 9, true);
        Check.is("21 the greatest number", z.safe(), 40);
    }

    private static void left() {
        SawnIce x = Palaces.gate();
        x.saw(0, 1, 0);
        x.visit(50);
        int hours = hoursOf(80.0f, 50);
        Check.is("22 now", x.left(0), 3);
        Check.is("22 before", x.left(hours - 1), 3);
        Check.is("22 two melt, one falls", x.left(hours), 0);
        x.pass(hours - 1);
        Check.is("22 as told", x.left(0), 3);
        Check.is("22 as told then", x.pass(1), 3);
        Check.is("22 an empty wall", x.left(48), 0);
        Check.fails("22 hours 49", ARGUMENT, () -> x.left(49));
        Check.fails("22 hours -1", ARGUMENT, () -> x.left(-1));
    }

    private static void nothingChanges() {
        SawnIce x = Palaces.gate();
        x.visit(9);
        x.heat(12, 20);
        String before = Palaces.all(x);
        x.goneIn();
        x.safe();
        x.left(48);
        x.massBits(0, 48);
        Check.is("19 to 22 change nothing", Palaces.all(x), before);
        Check.is("19 to 22 are no changes", x.account(14), 8);
        x.undo();
        Check.is("19 to 22 are not undone", x.account(14), 7);
    }
}
