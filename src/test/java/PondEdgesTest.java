/** Boundary cases of the pond, the clock and an hour, each under its sentence of the document. */
public final class PondEdgesTest {
    public static void main(String[] args) {
        calls();
        divisions();
        thickness();
        temperatures();
        clock();
        visitors();
        order();
        firstIce();
        secondJoints();
        thirdMelting();
        fourthVisitors();
        fifthMelted();
        sixthFalling();
        seventhBreaking();
        atLast();
        shadowsAtTheBeginning();
        Check.end("PondEdgesTest");
    }

    private static void calls() {
        Doc.whatItIs("An object is used for at most 512 calls after it has been made");
        SawnIce x = new SawnIce();
        for (int call = 1; call <= 510; call++) {
            x.pass(48);
        }
        Check.is("the call 511", x.pass(48), 0);
        Check.is("the call 512", x.account(0), 511 * 48);
    }

    private static void divisions() {
        Doc.terms("Divisions of whole numbers are rounded down.");
        int[] frosts = {-1, -4, -5, -6, -9, -10, -14, -15, -29, -30};
        int[] grown = {0, 0, 1, 1, 1, 2, 2, 3, 5, 6};
        for (int i = 0; i < frosts.length; i++) {
            SawnIce x = new SawnIce();
            Palaces.hour(x, frosts[i]);
            Check.is("ice after " + frosts[i], x.account(1), 20 + grown[i]);
        }
        int[] thaws = {1, 4, 5, 6, 9, 10, 14, 15, 19, 20};
        int[] molten = {0, 0, 1, 1, 1, 2, 2, 3, 3, 4};
        for (int i = 0; i < thaws.length; i++) {
            SawnIce x = new SawnIce();
            Palaces.hour(x, thaws[i]);
            Check.is("ice after " + thaws[i], x.account(1), 20 - molten[i]);
        }
    }

    private static void thickness() {
        Doc.terms("The pond has a thickness from 0 to 60, at first 20, and a length that is left.");
        SawnIce x = new SawnIce();
        Check.is("at first", x.account(1), 20);
        Check.is("length at first", x.account(2), 200);
        for (int thickness : new int[] {0, 1, 59, 60}) {
            Check.is("a pond with", Palaces.iceOf(thickness).account(1), thickness);
        }
    }

    private static void temperatures() {
        Doc.terms("For each hour of the day, from 0 to 23, there is a temperature from -30 to 20, at first -5.");
        SawnIce x = new SawnIce();
        for (int hour = 0; hour <= 23; hour++) {
            Check.is("at first, hour " + hour, x.heat(hour, hour - 3), -5);
        }
        for (int hour = 0; hour <= 23; hour++) {
            int other = hour % 2 == 0 ? -30 : 20;
            Check.is("its own, hour " + hour, x.heat(hour, other), hour - 3);
            Check.is("least and greatest, hour " + hour, x.heat(hour, 0), other);
        }
    }

    private static void clock() {
        Doc.terms("The clock is 0 at first; the hour of the day is the clock modulo 24.");
        SawnIce x = new SawnIce();
        Check.is("at first", x.account(0), 0);
        for (int hour = 0; hour <= 23; hour++) {
            x.heat(hour, hour - 3);
        }
        for (int clock = 0; clock <= 72; clock++) {
            Check.is("clock", x.account(0), clock);
            Check.is("temperature at the clock " + clock, x.account(12), clock % 24 - 3);
            x.pass(1);
        }
        // The hour 0 comes round again with its thaw: 20 at first, less by 1 each time and not else.
        SawnIce y = new SawnIce();
        Palaces.heatAll(y, 0);
        y.heat(0, 5);
        int[] clocks = {1, 24, 25, 48, 49, 73};
        int[] ices = {19, 19, 18, 18, 17, 16};
        for (int i = 0; i < clocks.length; i++) {
            y.pass(clocks[i] - y.account(0));
            Check.is("ice at the clock " + clocks[i], y.account(1), ices[i]);
        }
    }

    private static void visitors() {
        Doc.terms("There are from 0 to 50 visitors, at first 0.");
        SawnIce x = new SawnIce();
        Check.is("at first", x.account(3), 0);
        Check.is("the greatest", x.visit(50), 0);
        Check.is("are there", x.account(3), 50);
        Check.is("the least", x.visit(0), 50);
        Check.is("none are there", x.account(3), 0);
    }

    private static void order() {
        Doc.terms("If an hour goes by, the following happens in this order, by the hour of the day as it is, and by its"
                + " temperature T.");
        SawnIce x = new SawnIce();
        Palaces.put(x, 0, 6, 0, 0);
        x.visit(50);
        Palaces.hour(x, 20);
        Check.is("the third before the fourth", x.mass(0), 120.0f * (1.0f - (0.005f * 20.0f)) - (0.1f * 50.0f));

        SawnIce y = Palaces.iceOf(12);
        Palaces.put(y, 1, 1, 0, 0);
        y.visit(50);
        y.pass(1);
        Palaces.put(y, 0, 1, 0, 1);
        y.visit(1);
        Check.is("the fourth before the fifth, and that before the sixth", y.pass(1), 2);
        Check.is("melted and fallen", Palaces.signs(y), "mf");

        // A wedge of 10 with the joint 5 bears 30 and not less, with the joint 4 it does not bear a load of 30.
        for (int joint = 3; joint <= 5; joint++) {
            for (int t : new int[] {-5, 0, 6}) {
                SawnIce z = new SawnIce();
                Palaces.put(z, 1, 1, 0, 0);
                int upper = z.saw(0, 1, 0);
                int top = z.saw(1, 1, 1);
                z.pass(joint);
                z.lay(upper, 0, 1);
                z.lay(top, 0, 2);
                int then = joint + (t < 0 ? 1 : t > 5 ? -1 : 0);
                String what = "the second before the seventh, joint " + joint + ", at " + t;
                Check.is(what, Palaces.hour(z, t) == 0, then >= 5);
            }
        }
    }

    private static void firstIce() {
        Doc.terms("First, the thickness of the pond becomes greater by -T divided by 5 if T is below 0, and less by T"
                + " divided by 5 if T is above 0, but not below 0 nor above 60.");
        int[][] cases = {{59, -5, 60}, {58, -10, 60}, {60, -5, 60}, {60, -4, 60}, {60, -30, 60}, {59, -30, 60},
            {55, -30, 60}, {54, -30, 60}, {53, -30, 59}, {60, 5, 59}, {60, 20, 56}, {60, 0, 60},
            {0, 5, 0}, {0, 20, 0}, {0, 4, 0}, {0, 0, 0}, {1, 5, 0}, {1, 20, 0}, {3, 20, 0}, {4, 20, 0}, {5, 20, 1},
            {0, -5, 1}, {0, -30, 6}, {20, 0, 20}, {20, -30, 26}, {20, 20, 16}};
        for (int[] one : cases) {
            SawnIce x = Palaces.iceOf(one[0]);
            Palaces.hour(x, one[1]);
            Check.is(one[0] + " after " + one[1], x.account(1), one[2]);
        }
    }

    private static void secondJoints() {
        Doc.terms("Second, the joint of each block on the wall becomes 1 more if T is below 0, and 1 less if T is above"
                + " 5, but not below 0 nor above 9.");
        int[][] cases = {{0, -1, 1}, {0, -30, 1}, {0, 0, 0}, {0, 5, 0}, {0, 6, 0}, {0, 20, 0}, {1, 5, 1}, {1, 6, 0},
            {1, 20, 0}, {1, 0, 1}, {1, 1, 1}, {8, -1, 9}, {9, -1, 9}, {9, -30, 9}, {9, 0, 9}, {9, 5, 9}, {9, 6, 8}};
        for (int[] one : cases) {
            SawnIce x = new SawnIce();
            Palaces.put(x, 0, 6, 0, 0);
            int upper = Palaces.put(x, 1, 4, 1, 1);
            int racked = x.saw(0, 1, 0);
            if (one[0] > 0) {
                x.pass(one[0]);
            }
            Palaces.hour(x, one[1]);
            Check.is("joint of " + one[0] + " after " + one[1], x.blockOf(0, 5), one[2]);
            Check.is("above, joint of " + one[0] + " after " + one[1], x.blockOf(upper, 5), one[2]);
            Check.is("in a rack", x.blockOf(racked, 5), 0);
        }
    }

    private static void thirdMelting() {
        Doc.terms("Third, if T is above 0, each block on the wall melts: its mass becomes its mass times (1.0f minus"
                + " (0.01f times T, as a float)), or with 0.005f instead of 0.01f if it is in the shadow.");
        for (int t : new int[] {-30, -1, 0, 1, 20}) {
            SawnIce x = Palaces.atClock(6);
            Palaces.tower(x, 0, 2);
            Palaces.put(x, 1, 5, 1, 0);
            Palaces.put(x, 0, 3, 9, 0);
            float sunny = x.mass(3);
            float shady = x.mass(2);
            Palaces.hour(x, t);
            boolean isWarm = t > 0;
            Check.is("in the sun at " + t, x.mass(3), isWarm ? sunny * (1.0f - (0.01f * (float) t)) : sunny);
            Check.is("in the shadow at " + t, x.mass(2), isWarm ? shady * (1.0f - (0.005f * (float) t)) : shady);
        }
        // Each of the 24 hours with its sun: a block in the open, one with a tower at its left, one at its right.
        for (int hour = 0; hour <= 24 + 23; hour++) {
            SawnIce x = Palaces.atClock(hour);
            Palaces.tower(x, 0, 2);
            Palaces.put(x, 0, 4, 1, 0);
            Palaces.put(x, 0, 4, 7, 0);
            Palaces.tower(x, 11, 2);
            float top = x.mass(1);
            float mass = x.mass(2);
            float sun = mass * (1.0f - (0.01f * 10.0f));
            float shadow = mass * (1.0f - (0.005f * 10.0f));
            Palaces.hour(x, 10);
            int h = hour % 24;
            Check.is("right of a tower at " + hour, x.mass(2), h >= 12 && h <= 17 ? sun : shadow);
            Check.is("left of a tower at " + hour, x.mass(3), h >= 6 && h <= 11 ? sun : shadow);
            float part = h >= 6 && h <= 17 ? 0.01f : 0.005f;
            Check.is("top of a tower at " + hour, x.mass(1), top * (1.0f - (part * 10.0f)));
        }
    }

    private static void fourthVisitors() {
        Doc.terms("Fourth, the mass of each block in the courses 0 and 1 becomes less by (0.1f times the number of"
                + " visitors, as a float).");
        for (int visitors : new int[] {0, 1, 49, 50}) {
            SawnIce x = new SawnIce();
            Palaces.tower(x, 0, 4);
            int racked = x.saw(0, 1, 0);
            x.visit(visitors);
            x.pass(1);
            for (int course = 0; course <= 3; course++) {
                float less = course <= 1 ? 0.1f * (float) visitors : 0.0f;
                Check.is(visitors + " visitors, course " + course, x.mass(course), 20.0f - less);
            }
            Check.is(visitors + " visitors, in a rack", x.mass(racked), 20.0f);
        }
    }

    private static void fifthMelted() {
        Doc.terms("Fifth, each block on the wall with a mass below 1.0f has melted and is gone.");
        // A wedge from ice of 12 has a mass of 6, and 50 visitors take 5 of it.
        SawnIce x = Palaces.iceOf(12);
        Palaces.put(x, 1, 1, 0, 0);
        x.visit(50);
        Check.is("a mass of just 1 has not melted", x.pass(1), 0);
        Check.is("it is 1", x.mass(0), 1.0f);
        x.visit(0);
        Check.is("nor later", x.pass(48), 0);
        x.visit(1);
        Check.is("a little less has", x.pass(1), 1);
        Check.is("it melted", x.sign(0), 'm');

        SawnIce y = Palaces.iceOf(12);
        Palaces.put(y, 1, 1, 0, 0);
        y.visit(50);
        y.pass(1);
        y.visit(0);
        Check.is("the thaw of 1 degree makes it less than 1", Palaces.hour(y, 1), 1);
        Check.is("it melted by the thaw", y.blockOf(0, 7), 2);

        Doc.terms("A mass that visitors make less than 1.0f has melted, in frost, too.");
        SawnIce z = Palaces.iceOf(10);
        Palaces.put(z, 1, 1, 0, 0);
        z.visit(50);
        Check.is("in frost", Palaces.hour(z, -30), 1);
        Check.is("less than nothing", z.sign(0), 'm');
    }

    private static void sixthFalling() {
        Doc.terms("Sixth, blocks that are not supported fall, as told below.");
        // What falls no longer loads the wedge in the column 0, which could not bear it.
        SawnIce x = new SawnIce();
        Palaces.heatAll(x, 0);
        int weak = Palaces.put(x, 1, 1, 1, 0);
        x.visit(45);
        x.pass(2);
        int firm = Palaces.put(x, 1, 1, 0, 0);
        int upper = Palaces.put(x, 0, 3, 0, 1);
        x.visit(1);
        Check.is("one melts, one falls", x.pass(1), 2);
        Check.is("melted", x.sign(weak), 'm');
        Check.is("fallen, before anything breaks", x.sign(upper), 'f');
        Check.is("not broken", x.sign(firm), 'w');
        Check.is("bears nothing more", x.load(firm, false), 0);
    }

    private static void seventhBreaking() {
        Doc.terms("Seventh, as long as there is a block whose load is greater than what it bears, the one with the"
                + " lowest number breaks and is gone, and then blocks that are not supported fall.");
        SawnIce x = new SawnIce();
        Palaces.heatAll(x, 0);
        Palaces.tower(x, 0, 5);
        Check.is("as much as it bears", x.load(0, false), x.load(0, true));
        Check.is("is not greater", x.pass(48), 0);
        x.visit(1);
        Check.is("warmed by one visitor it bears less", x.pass(1), 5);
        Check.is("broken, and fallen", Palaces.signs(x), "bffff");

        // The higher of two that bear too little has the lower number; with it gone the other one bears enough.
        SawnIce y = new SawnIce();
        Palaces.heatAll(y, 0);
        y.saw(1, 1, 1);
        Palaces.put(y, 1, 1, 0, 0);
        y.lay(0, 0, 1);
        Palaces.put(y, 0, 2, 0, 2);
        Check.is("both bear too little", y.pass(1), 2);
        Check.is("the lowest number", Palaces.signs(y), "bwf");

        // Here the lower one has the lower number, and all above it falls.
        SawnIce z = new SawnIce();
        Palaces.heatAll(z, 0);
        Palaces.put(z, 1, 1, 0, 0);
        Palaces.put(z, 1, 1, 0, 1);
        Palaces.put(z, 0, 2, 0, 2);
        Check.is("all go", z.pass(1), 3);
        Check.is("the lowest number there", Palaces.signs(z), "bff");

        // When one is gone its share comes upon the others; with 2 of 6 columns left, what lies on them falls.
        SawnIce w = new SawnIce();
        Palaces.heatAll(w, 0);
        for (int column = 0; column < 6; column++) {
            Palaces.put(w, column == 0 ? 1 : 0, 1, column, 0);
        }
        for (int course = 1; course <= 4; course++) {
            Palaces.put(w, 0, 6, 0, course);
        }
        Check.is("a slab bears its share at first", w.load(1, false), w.load(1, true));
        Check.is("four break, four fall", w.pass(1), 8);
        Check.is("as long as there is one", Palaces.signs(w), "bbbbwwffff");
    }

    private static void atLast() {
        Doc.terms("At last the clock becomes 1 more.");
        SawnIce x = new SawnIce();
        x.heat(0, 10);
        x.heat(1, 0);
        x.pass(1);
        Check.is("by the hour as it is, not by the next", x.account(1), 18);
        Check.is("clock", x.account(0), 1);
        x.pass(1);
        Check.is("by the next one then", x.account(1), 18);
        x.pass(23);
        Check.is("clock then", x.account(0), 25);
    }

    private static void shadowsAtTheBeginning() {
        Doc.terms("Shadows are those at the beginning of the hour.");
        // The tower melts in this hour; the block behind it was in its shadow.
        SawnIce x = Palaces.iceOf(12);
        Palaces.heatAll(x, 0);
        x.pass((6 - x.account(0) % 24 + 24) % 24);
        Palaces.put(x, 1, 1, 0, 0);
        Palaces.put(x, 1, 1, 0, 1);
        int block = Palaces.put(x, 0, 4, 1, 0);
        float mass = x.mass(block);
        x.visit(50);
        x.pass(1);
        Check.is("the tower still stands", x.height(0), 2);
        Check.is("the tower goes", Palaces.hour(x, 20), 2);
        Check.is("in its shadow", x.mass(block),
                (mass - (0.1f * 50.0f)) * (1.0f - (0.005f * 20.0f)) - (0.1f * 50.0f));
        float before = x.mass(block);
        Palaces.hour(x, 20);
        Check.is("in the sun an hour later", x.mass(block), before * (1.0f - (0.01f * 20.0f)) - (0.1f * 50.0f));
    }
}
