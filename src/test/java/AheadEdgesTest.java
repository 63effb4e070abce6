import java.util.NoSuchElementException;

/** Boundary cases of what comes ahead, each under its sentence; the hours themselves are let go by to compare. */
public final class AheadEdgesTest {
    private static final Class<NoSuchElementException> NONE = NoSuchElementException.class;

    public static void main(String[] args) {
        goneInOneTo96();
        goneInAcrossMidnight();
        goneInByAnyCause();
        massBits();
        massBitsAsHoursGoBy();
        safeWithoutBlocks();
        safeAtEachHour();
        safeBehindNoon();
        safeFromZeroToFifty();
        safeNotAtAll();
        left();
        meanBits();
        Check.end("AheadEdgesTest");
    }

    /** A block of the mass 1.0f on the ground, at the clock 3 and without visitors: the least thaw melts it. */
    private static SawnIce little() {
        SawnIce x = Palaces.iceOf(12);
        Palaces.put(x, 1, 1, 0, 0);
        x.visit(50);
        x.pass(1);
        x.visit(0);
        return x;
    }

    private static void goneInOneTo96() {
        Doc.promise(19, "Returns the number of hours, 1 to 96.");
        SawnIce x = little();
        Check.is("the clock", x.account(0), 3);
        x.heat(3, 1);
        Check.is("in this hour", x.goneIn(), 1);
        x.heat(3, 0);
        x.heat(4, 1);
        Check.is("in the next one", x.goneIn(), 2);
        x.heat(4, 0);
        x.heat(2, 1);
        Check.is("just before this hour comes round again", x.goneIn(), 24);

        // A mass of 20 and 2 visitors: each hour takes 0.2f, so that it is gone in some 95 hours.
        SawnIce y = new SawnIce();
        Palaces.put(y, 0, 1, 0, 0);
        y.visit(2);
        int hours = 0;
        for (float mass = 20.0f; mass >= 1.0f; mass = mass - (0.1f * 2.0f)) {
            hours++;
        }
        Check.is("as floats tell", y.goneIn(), hours);
        Check.is("it is near 96", hours >= 95 && hours <= 96, true);

        Doc.promise(19, "Throws `NoSuchElementException` if none would be in 96 hours");
        SawnIce z = new SawnIce();
        Palaces.put(z, 0, 2, 0, 0);
        z.visit(4);
        Check.fails("in 98", NONE, () -> z.goneIn());
        z.pass(1);
        Check.fails("in 97", NONE, () -> z.goneIn());
        z.pass(1);
        Check.is("in 96", z.goneIn(), 96);
        Check.is("not in 48", z.pass(48), 0);
        Check.is("not in 95", z.pass(47), 0);
        Check.is("now at once", z.goneIn(), 1);
        Check.is("in 96 hours", z.pass(1), 1);
        Check.fails("an empty wall", NONE, () -> z.goneIn());
        z.saw(0, 1, 0);
        z.saw(1, 1, 1);
        z.visit(50);
        Palaces.heatAll(z, 20);
        Check.fails("none from a rack", NONE, () -> z.goneIn());
    }

    private static void goneInAcrossMidnight() {
        Doc.promise(19, "Returns in how many hours the first block would be gone from the wall, if only hours went by.");
        for (int hot = 0; hot <= 23; hot++) {
            SawnIce x = little();
            x.pass(17);
            x.heat(hot, 1);
            int hours = (hot - 20 + 24) % 24 + 1;
            Check.is("at 20, the hour " + hot + " is warm", x.goneIn(), hours);
            Check.is("one mass before it, hour " + hot, x.massBits(0, hours - 1), Palaces.bits(1.0f));
            Check.is("no mass behind it, hour " + hot, x.massBits(0, hours), -1);
            Check.is("left before it, hour " + hot, x.left(hours - 1), 1);
            Check.is("left behind it, hour " + hot, x.left(hours), 0);
        }
    }

    private static void goneInByAnyCause() {
        Doc.promise(19, "Returns in how many hours the first block would be gone from the wall, if only hours went by.");
        SawnIce x = new SawnIce();
        Palaces.put(x, 1, 1, 0, 0);
        Palaces.put(x, 0, 2, 0, 1);
        Check.is("it breaks", x.goneIn(), 1);
        // The weak one of two columns melts second, the first one to be gone counts.
        SawnIce y = new SawnIce();
        Palaces.put(y, 0, 6, 0, 0);
        Palaces.put(y, 1, 1, 6, 0);
        y.visit(50);
        Check.is("the first of two", y.goneIn(), 2);
    }

    private static void massBits() {
        Doc.promise(20, "how many, 0 to 48");
        SawnIce x = Palaces.gate();
        x.visit(1);
        Check.is("after 0", x.massBits(0, 0), Palaces.bits(80.0f));
        float mass = 80.0f;
        for (int hours = 1; hours <= 48; hours++) {
            mass = mass - (0.1f * 1.0f);
            Check.is("after " + hours, x.massBits(0, hours), Palaces.bits(mass));
        }
        Doc.promise(20, "or -1, if it would be gone or is gone.");
        SawnIce y = little();
        Check.is("it is there", y.massBits(0, 0), Palaces.bits(1.0f));
        y.heat(3, 1);
        Check.is("it would be gone", y.massBits(0, 1), -1);
        Check.is("it would still be gone", y.massBits(0, 48), -1);
        y.pass(1);
        Check.is("it is gone", y.massBits(0, 0), -1);
        Check.is("it is gone for good", y.massBits(0, 48), -1);
        int racked = y.saw(0, 6, 0);
        Palaces.heatAll(y, 20);
        Check.is("in a rack after 0", y.massBits(racked, 0), Palaces.bits(y.mass(racked)));
        Check.is("in a rack after 48", y.massBits(racked, 48), Palaces.bits(y.mass(racked)));
        y.take(racked);
        Check.is("taken", y.massBits(racked, 0), -1);
    }

    private static SawnIce house() {
        SawnIce x = new SawnIce();
        for (int hour = 0; hour < 24; hour++) {
            x.heat(hour, hour % 5 * 9 - 19);
        }
        Palaces.put(x, 0, 4, 0, 0);
        Palaces.put(x, 1, 4, 5, 0);
        Palaces.put(x, 0, 6, 2, 1);
        Palaces.put(x, 1, 3, 3, 2);
        Palaces.put(x, 0, 1, 11, 0);
        x.saw(0, 2, 0);
        x.visit(3);
        return x;
    }

    private static void massBitsAsHoursGoBy() {
        Doc.promise(20, "Returns the mass that a block would have after hours, if only hours went by.");
        for (int hours = 1; hours <= 48; hours++) {
            SawnIce x = house();
            SawnIce y = house();
            y.pass(hours);
            for (int block = 0; block < y.account(4); block++) {
                char sign = y.sign(block);
                int due = sign == 'w' || sign == 'r' ? Palaces.bits(y.mass(block)) : -1;
                Check.is("block " + block + " after " + hours, x.massBits(block, hours), due);
            }
            Check.is("left after " + hours, x.left(hours), y.account(6));
        }
    }

    private static void safeWithoutBlocks() {
        Doc.terms("Without a block on the wall 50 visitors are safe.");
        SawnIce x = new SawnIce();
        Palaces.heatAll(x, 20);
        Check.is("a new wall", x.safe(), 50);
        x.saw(0, 1, 0);
        x.visit(50);
        Check.is("a block in a rack", x.safe(), 50);
        x.lay(0, 0, 0);
        Check.is("on the wall it is another thing", x.safe() < 50, true);
        x.pass(48);
        Check.is("melted", x.sign(0), 'm');
        Check.is("an empty wall again", x.safe(), 50);
    }

    /** The greatest number of visitors with which no block goes in so many hours, tried out by letting them go by. */
    private static int tried(SawnIce x, int hours) {
        x.save();
        for (int visitors = 50; visitors >= 0; visitors--) {
            x.restore();
            x.visit(visitors);
            if (x.pass(hours) == 0) {
                x.restore();
                return visitors;
            }
        }
        x.restore();
        return -1;
    }

    private static void safeAtEachHour() {
        Doc.promise(21, "the next hour 12 of the day, this hour if it is one");
        for (int clock = 0; clock <= 49; clock++) {
            SawnIce x = new SawnIce();
            x.saw(0, 1, 0);
            Palaces.heatAll(x, 0);
            for (int hour = 0; hour < clock; hour++) {
                x.pass(1);
            }
            x.lay(0, 0, 0);
            int hours = clock % 24 <= 12 ? 13 - clock % 24 : 37 - clock % 24;
            Check.is("at " + clock + ", by " + hours + " hours", x.safe(), tried(x, hours));
        }
    }

    private static void safeBehindNoon() {
        Doc.promise(21, "with which no block would be gone from the wall behind the next hour 12 of the day");
        for (int clock = 4; clock <= 40; clock++) {
            for (int warm = 0; warm <= 23; warm++) {
                SawnIce x = little();
                x.pass(clock - 3);
                x.heat(warm, 1);
                int hoursToWarm = (warm - clock % 24 + 24) % 24;
                int hoursToNoon = (12 - clock % 24 + 24) % 24;
                String what = "at " + clock + ", the hour " + warm + " is warm";
                if (hoursToWarm <= hoursToNoon) {
                    Check.fails(what, NONE, () -> x.safe());
                } else {
                    Check.is(what, x.safe(), 0);
                }
            }
        }
    }

    private static void safeFromZeroToFifty() {
        Doc.promise(21, "Returns how many visitors are safe: the greatest number of them");
        // In the hour 12 a mass of 6 is just enough for 50 visitors; what others took before is missing then.
        for (int before = 0; before <= 50; before++) {
            SawnIce x = Palaces.iceOf(12);
            Palaces.put(x, 1, 1, 0, 0);
            x.visit(before);
            x.pass(1);
            x.visit(0);
            x.pass(12 - x.account(0));
            int due = tried(x, 1);
            Check.is("after " + before + " visitors", x.safe(), due);
            Check.is("some " + (50 - before), Math.abs(due - (50 - before)) <= 1, true);
            Check.is("none before, all now; all before, none now",
                    before > 0 && before < 50 || due == 50 - before, true);
            x.visit(50);
            Check.is("as if there were so many, not as many as there are", x.safe(), due);
        }
        Check.is("fifty", Palaces.gate().safe(), 50);
        Check.is("no visitor", little().safe(), 0);
    }

    private static void safeNotAtAll() {
        Doc.promise(21, "Throws `NoSuchElementException` if no number is safe");
        SawnIce x = little();
        x.heat(12, 1);
        Check.fails("it melts without visitors", NONE, () -> x.safe());
        x.heat(12, 0);
        Check.is("it does not", x.safe(), 0);
        SawnIce y = new SawnIce();
        Palaces.put(y, 1, 1, 0, 0);
        Palaces.put(y, 0, 2, 0, 1);
        Check.fails("it breaks with any", NONE, () -> y.safe());
    }

    private static void left() {
        Doc.promise(22, "Returns how many blocks would be on the wall after hours.");
        SawnIce x = new SawnIce();
        Check.is("an empty wall, 0 hours", x.left(0), 0);
        Check.is("an empty wall, 48 hours", x.left(48), 0);
        Palaces.tower(x, 0, 8);
        Palaces.tower(x, 11, 2);
        x.saw(0, 1, 0);
        x.take(x.saw(1, 1, 1));
        Check.is("0 hours", x.left(0), 10);
        Check.is("1 hour: the first tower breaks", x.left(1), 2);
        x.visit(50);
        Check.is("48 hours", x.left(48), 0);
    }

    private static void meanBits() {
        Doc.promise(29, "Throws `ArithmeticException` if there are none");
        Class<ArithmeticException> none = ArithmeticException.class;
        SawnIce x = little();
        Check.is("one of the mass 1", x.meanBits(), Double.doubleToLongBits(1.0));
        x.heat(3, 1);
        x.pass(1);
        Check.fails("none any more", none, () -> x.meanBits());
        x.saw(0, 6, 0);
        Check.fails("in a rack only", none, () -> x.meanBits());
        x.lay(1, 0, 0);
        Check.is("only what is on the wall", x.meanBits(), Double.doubleToLongBits((double) x.mass(1)));
        Doc.promise(29, "their sum, by their numbers, as doubles, beginning with 0.0, divided by their number as a double.");
        SawnIce y = house();
        for (int hour = 0; hour < 24; hour++) {
            double sum = 0.0;
            int number = 0;
            for (int block = 0; block < y.account(4); block++) {
                if (y.sign(block) == 'w') {
                    sum = sum + (double) y.mass(block);
                    number++;
                }
            }
            if (number > 0) {
                Check.is("mean at " + hour, y.meanBits(), Double.doubleToLongBits(sum / (double) number));
            } else {
                Check.fails("none at " + hour, none, () -> y.meanBits());
            }
            y.pass(1);
        }
    }
}
