import java.util.NoSuchElementException;

/** Promises 8 to 18: what there is. */
public final class AskingTest {
    private static final Class<IndexOutOfBoundsException> INDEX = IndexOutOfBoundsException.class;
    private static final Class<IllegalArgumentException> ARGUMENT = IllegalArgumentException.class;
    private static final Class<NoSuchElementException> NONE = NoSuchElementException.class;

    public static void main(String[] args) {
        blockOf();
        mass();
        load();
        loadAgain();
        at();
        height();
        isShady();
        sign();
        rooms();
        inRack();
        worst();
        Check.end("AskingTest");
    }

    private static void numbers(SawnIce x, int block, int... due) {
        for (int what = 0; what < due.length; what++) {
            Check.is("8 blockOf(" + block + ", " + what + ")", x.blockOf(block, what), due[what]);
        }
    }

    /** 0 in a rack, 1 on the wall, 2 taken, 3 melted, 4 broken, 5 fallen. */
    private static SawnIce ofAllKinds() {
        SawnIce x = new SawnIce();
        Palaces.heatAll(x, 0);
        x.saw(0, 1, 0);
        x.saw(0, 6, 0);
        x.take(x.saw(1, 2, 1));
        Palaces.put(x, 1, 1, 11, 0);
        x.visit(50);
        x.pass(2);
        x.visit(0);
        Palaces.put(x, 1, 1, 2, 0);
        Palaces.put(x, 0, 2, 2, 1);
        x.lay(1, 5, 0);
        Palaces.heatAll(x, -5);
        x.pass(1);
        return x;
    }

    private static void blockOf() {
        SawnIce x = ofAllKinds();
        numbers(x, 0, 0, 1, 0, -1, -1, 0, 0, 0);
        numbers(x, 1, 0, 6, 1, 5, 0, 1, -1, 0);
        numbers(x, 2, 1, 2, 2, -1, -1, 0, -1, 1);
        numbers(x, 3, 1, 1, 2, -1, -1, 0, -1, 2);
        numbers(x, 4, 1, 1, 2, -1, -1, 0, -1, 3);
        numbers(x, 5, 0, 2, 2, -1, -1, 0, -1, 4);
        Check.fails("8 block 6", INDEX, () -> x.blockOf(6, 0));
        Check.fails("8 block -1, with a wrong what too", INDEX, () -> x.blockOf(-1, 8));
        Check.fails("8 what 8", ARGUMENT, () -> x.blockOf(0, 8));
        Check.fails("8 what -1", ARGUMENT, () -> x.blockOf(0, -1));

        SawnIce y = Palaces.gate();
        y.saw(1, 1, 1);
        int second = y.saw(1, 4, 1);
        numbers(y, second, 1, 4, 0, -1, -1, 0, 1, 0);
        numbers(y, 2, 0, 6, 1, 2, 1, 0, -1, 0);
        y.pass(3);
        Check.is("8 joint above", y.blockOf(2, 5), 3);
    }

    private static void mass() {
        SawnIce x = ofAllKinds();
        Check.is("9 in a rack", x.mass(0), 20.0f);
        Check.is("9 on the wall", x.mass(1), 120.0f);
        for (int block = 2; block <= 5; block++) {
            int gone = block;
            Check.fails("9 gone: " + block, NONE, () -> x.mass(gone));
        }
        Check.fails("9 block 6", INDEX, () -> x.mass(6));
        Check.fails("9 block -1", INDEX, () -> x.mass(-1));
        x.heat(3, 7);
        x.pass(1);
        Check.is("9 as a float", x.mass(1), 120.0f * (1.0f - (0.005f * 7.0f)));
    }

    private static void load() {
        SawnIce x = Palaces.gate();
        int top = Palaces.put(x, 0, 1, 7, 2);
        int low = Palaces.put(x, 1, 1, 4, 0);
        int racked = x.saw(0, 1, 0);
        float weight = 120.0f + 20.0f;
        Check.is("10 two of six", x.load(0, false), Palaces.bits(weight * 2.0f / 6.0f));
        Check.is("10 three of six", x.load(1, false), Palaces.bits(weight * 3.0f / 6.0f));
        Check.is("10 one of six", x.load(low, false), Palaces.bits(weight * 1.0f / 6.0f));
        Check.is("10 under the top", x.load(2, false), Palaces.bits(20.0f));
        Check.is("10 on the top", x.load(top, false), 0);
        Check.is("10 a slab bears", x.load(0, true), Palaces.bits(320.0f));
        Check.is("10 a wedge bears", x.load(low, true), Palaces.bits(20.0f));
        x.pass(1);
        Check.is("10 with a joint", x.load(0, true), Palaces.bits(80.0f * 4.0f * (1.0f + (0.1f * 1.0f))));
        x.pass(2);
        Check.is("10 with a joint of 3", x.load(2, true), Palaces.bits(120.0f * 4.0f * (1.0f + (0.1f * 3.0f))));
        loadOfTower();
        loadOfTheFirstBlock();
        smallLoad();
        Check.fails("10 in a rack", NONE, () -> x.load(racked, false));
        Check.fails("10 broken", NONE, () -> x.load(low, true));
        Check.fails("10 block 6", INDEX, () -> x.load(6, true));
        Check.fails("10 block -1", INDEX, () -> x.load(-1, false));
    }

    private static void loadOfTower() {
        SawnIce x = new SawnIce();
        for (int course = 0; course <= 7; course++) {
            Palaces.put(x, 0, 1, 3, course);
        }
        for (int course = 0; course <= 7; course++) {
            Check.is("10 tower, course " + course, x.load(course, false), Palaces.bits(20.0f * (7 - course)));
            Check.is("11 tower, course " + course, x.loadAgain(course), Palaces.bits(20.0f * (7 - course)));
        }
        Check.is("13 tower", x.height(3), 8);
        Check.is("14 far from the tower", x.isShady(Palaces.put(x, 0, 1, 10, 0), 6), true);
        Check.is("14 farther from the tower", x.isShady(Palaces.put(x, 0, 1, 11, 0), 6), false);
    }

    private static void loadOfTheFirstBlock() {
        SawnIce x = new SawnIce();
        x.saw(0, 3, 0);
        Palaces.put(x, 0, 1, 0, 0);
        Palaces.put(x, 0, 1, 2, 0);
        x.lay(0, 0, 1);
        Check.is("10 from the block 0", x.load(1, false), Palaces.bits(30.0f));
        Check.is("11 from the block 0", x.loadAgain(2), Palaces.bits(30.0f));
        roomsOf(x, 0, "1 1 1");
    }

    private static void smallLoad() {
        SawnIce x = new SawnIce();
        Palaces.put(x, 0, 2, 0, 0);
        Palaces.put(x, 0, 2, 2, 0);
        Palaces.put(x, 1, 3, 0, 1);
        x.visit(48);
        x.pass(6);
        float mass = 30.0f;
        for (int i = 0; i < 6; i++) {
            mass = mass - (0.1f * 48.0f);
        }
        Check.is("10 between 1 and 2", mass > 1.0f && mass < 2.0f, true);
        Check.is("10 less than 1", x.load(1, false), Palaces.bits(mass * 1.0f / 3.0f));
    }

    /** Courses of slabs that lie on one another in many ways, of sizes that floats don't share evenly. */
    private static SawnIce bricks() {
        SawnIce x = new SawnIce();
        int[][] lengths = {{3, 4, 5}, {5, 6, 1}, {1, 5, 4, 2}, {4, 3, 5}, {5, 5}, {3, 2, 3, 3}, {6, 4}};
        x.heat(0, -30);
        for (int course = 0; course < lengths.length; course++) {
            int column = 0;
            for (int length : lengths[course]) {
                int kind = (length + course) % 3 == 0 ? 1 : 0;
                Palaces.put(x, kind, length, column, course);
                column += length;
            }
        }
        x.visit(1);
        return x;
    }

    private static void loadAgain() {
        SawnIce x = bricks();
        for (int hour = 0; hour < 6; hour++) {
            for (int block = 0; block < x.account(4); block++) {
                if (x.sign(block) == 'w') {
                    Check.is("11 both ways, block " + block, x.loadAgain(block), x.load(block, false));
                }
            }
            x.heat(x.account(0) % 24, hour % 2 == 0 ? 3 : -5);
            x.pass(1);
        }
        SawnIce y = Palaces.gate();
        int racked = y.saw(1, 1, 1);
        Check.is("11 two of five", y.loadAgain(0), Palaces.bits(120.0f * 2.0f / 5.0f));
        Check.is("11 three of five", y.loadAgain(1), Palaces.bits(120.0f * 3.0f / 5.0f));
        Check.is("11 none", y.loadAgain(2), 0);
        Check.fails("11 in a rack", NONE, () -> y.loadAgain(racked));
        Check.fails("11 block 4", INDEX, () -> y.loadAgain(4));
        Check.fails("11 block -1", INDEX, () -> y.loadAgain(-1));
    }

    private static void at() {
        SawnIce x = Palaces.gate();
        String[] due = {"0000-1111---", "--222222----", "------------"};
        for (int course = 0; course < due.length; course++) {
            for (int column = 0; column < 12; column++) {
                char c = due[course].charAt(column);
                Check.is("12 at(" + column + ", " + course + ")", x.at(column, course), c == '-' ? -1 : c - '0');
            }
        }
        Check.is("12 far corner", x.at(11, 7), -1);
        Check.fails("12 column 12", INDEX, () -> x.at(12, 0));
        Check.fails("12 column -1", INDEX, () -> x.at(-1, 0));
        Check.fails("12 course 8", INDEX, () -> x.at(0, 8));
        Check.fails("12 course -1", INDEX, () -> x.at(0, -1));
    }

    private static void height() {
        SawnIce x = Palaces.gate();
        String due = "112222221000";
        for (int column = 0; column < 12; column++) {
            Check.is("13 height(" + column + ")", x.height(column), due.charAt(column) - '0');
        }
        Check.fails("13 column 12", INDEX, () -> x.height(12));
        Check.fails("13 column -1", INDEX, () -> x.height(-1));
    }

    private static void isShady() {
        SawnIce x = new SawnIce();
        Palaces.put(x, 0, 1, 5, 0);
        Palaces.put(x, 0, 1, 5, 1);
        Palaces.put(x, 0, 1, 5, 2);
        Palaces.put(x, 0, 2, 7, 0);
        Palaces.put(x, 0, 2, 9, 0);
        Palaces.put(x, 0, 2, 2, 0);
        Palaces.put(x, 0, 2, 0, 0);
        int racked = x.saw(0, 1, 0);
        // The tower's height is 3: a block on the ground is in its shadow up to the distance 2.
        boolean[][] due = {{false, false}, {true, false}, {false, false}, {false, true}, {false, false}};
        int[] blocks = {0, 3, 4, 5, 6};
        for (int i = 0; i < blocks.length; i++) {
            for (int hour = 0; hour < 24; hour++) {
                boolean isShady = hour < 6 || hour > 17 || due[i][hour < 12 ? 0 : 1];
                Check.is("14 isShady(" + blocks[i] + ", " + hour + ")", x.isShady(blocks[i], hour), isShady);
            }
        }
        Check.is("14 the top stands in the sun", x.isShady(2, 6), false);
        Check.fails("14 hour 24", INDEX, () -> x.isShady(0, 24));
        Check.fails("14 hour -1, in a rack too", INDEX, () -> x.isShady(racked, -1));
        Check.fails("14 block 8", INDEX, () -> x.isShady(8, 0));
        Check.fails("14 block -1", INDEX, () -> x.isShady(-1, 0));
        Check.fails("14 in a rack", NONE, () -> x.isShady(racked, 0));

        // Towers in the first and the last column.
        SawnIce z = new SawnIce();
        for (int column : new int[] {0, 11}) {
            Palaces.put(z, 0, 1, column, 0);
            Palaces.put(z, 0, 1, column, 1);
        }
        int left = Palaces.put(z, 0, 3, 1, 0);
        int right = Palaces.put(z, 0, 2, 9, 0);
        Check.is("14 column 0 to the left", z.isShady(left, 11), true);
        Check.is("14 no column to the right", z.isShady(left, 17), false);
        Check.is("14 column 11 to the right", z.isShady(right, 17), true);
        Check.is("14 no column to the left", z.isShady(right, 11), false);

        // One course up, the same tower must be one higher.
        SawnIce y = new SawnIce();
        for (int course = 0; course < 3; course++) {
            Palaces.put(y, 0, 1, 0, course);
        }
        Palaces.put(y, 0, 2, 1, 0);
        int upper = Palaces.put(y, 0, 2, 1, 1);
        Palaces.put(y, 0, 2, 3, 0);
        int far = Palaces.put(y, 0, 1, 3, 1);
        Check.is("14 height 3, course 1, distance 1", y.isShady(upper, 6), true);
        Check.is("14 height 3, course 1, distance 3", y.isShady(far, 6), false);
        Check.is("14 the sun from the right", y.isShady(upper, 12), false);
    }

    private static void sign() {
        SawnIce x = ofAllKinds();
        Check.is("15 all signs", Palaces.signs(x), "rwtmbf");
        Check.fails("15 block 6", INDEX, () -> x.sign(6));
        Check.fails("15 block -1", INDEX, () -> x.sign(-1));
    }

    private static void roomsOf(SawnIce x, int course, String due) {
        Check.is("16 rooms of " + course,
                x.rooms(course, 0) + " " + x.rooms(course, 1) + " " + x.rooms(course, 2), due);
    }

    private static void rooms() {
        SawnIce x = Palaces.gate();
        roomsOf(x, 0, "1 1 4");
        for (int course = 1; course <= 7; course++) {
            roomsOf(x, course, "0 0 -1");
        }
        Check.fails("16 course 8", INDEX, () -> x.rooms(8, 0));
        Check.fails("16 course -1, with a wrong what too", INDEX, () -> x.rooms(-1, 3));
        Check.fails("16 what 3", ARGUMENT, () -> x.rooms(0, 3));
        Check.fails("16 what -1", ARGUMENT, () -> x.rooms(0, -1));

        // "##.##..##.##" on the ground, roofed gap by gap.
        SawnIce y = new SawnIce();
        for (int column : new int[] {0, 3, 7, 10}) {
            Palaces.put(y, 0, 2, column, 0);
        }
        roomsOf(y, 0, "0 0 -1");
        Palaces.put(y, 0, 5, 0, 1);
        roomsOf(y, 0, "1 1 2");
        Palaces.put(y, 0, 2, 6, 1);
        roomsOf(y, 0, "1 1 2");
        Palaces.put(y, 0, 2, 9, 1);
        roomsOf(y, 0, "2 1 2");
        y.undo();
        y.undo();
        y.undo();
        y.undo();
        Palaces.put(y, 0, 4, 5, 1);
        roomsOf(y, 0, "2 2 5");

        // Two gaps of 2: the leftmost is told.
        SawnIce z = new SawnIce();
        for (int column : new int[] {0, 4, 8}) {
            Palaces.put(z, 0, 2, column, 0);
        }
        Palaces.put(z, 0, 4, 4, 1);
        roomsOf(z, 0, "1 2 6");
        Palaces.put(z, 0, 4, 0, 1);
        roomsOf(z, 0, "2 2 2");

        // A roof that juts out makes no room, neither at the left nor at the right; and a room in the course 1.
        SawnIce w = new SawnIce();
        Palaces.put(w, 0, 2, 2, 0);
        Palaces.put(w, 0, 2, 9, 0);
        Palaces.put(w, 0, 2, 1, 1);
        Palaces.put(w, 0, 2, 10, 1);
        roomsOf(w, 0, "0 0 -1");
        Palaces.put(w, 0, 5, 4, 0);
        Palaces.put(w, 0, 1, 5, 1);
        roomsOf(w, 1, "0 0 -1");
        Palaces.put(w, 0, 4, 2, 2);
        roomsOf(w, 1, "1 2 3");
    }

    private static void inRack() {
        SawnIce x = new SawnIce();
        x.saw(1, 1, 1);
        x.saw(0, 1, 0);
        x.saw(0, 2, 0);
        Check.is("17 slab", x.inRack(0, 0), 1);
        Check.is("17 second slab", x.inRack(0, 1), 2);
        Check.is("17 wedge", x.inRack(1, 0), 0);
        Check.is("17 free", x.inRack(1, 1), -1);
        Check.is("17 last place", x.inRack(0, 4), -1);
        x.take(1);
        Check.is("17 taken", x.inRack(0, 0), -1);
        Check.is("17 the other keeps its place", x.inRack(0, 1), 2);
        x.lay(2, 0, 0);
        Check.is("17 laid", x.inRack(0, 1), -1);
        Check.fails("17 rack 2", INDEX, () -> x.inRack(2, 0));
        Check.fails("17 rack -1", INDEX, () -> x.inRack(-1, 0));
        Check.fails("17 place 5", INDEX, () -> x.inRack(0, 5));
        Check.fails("17 place -1", INDEX, () -> x.inRack(1, -1));
    }

    private static void worst() {
        SawnIce x = new SawnIce();
        Check.fails("18 empty wall", NONE, () -> x.worst());
        x.saw(0, 1, 0);
        Check.fails("18 in a rack only", NONE, () -> x.worst());
        Palaces.put(x, 0, 1, 11, 0);
        Palaces.put(x, 0, 1, 9, 0);
        Check.is("18 the lowest of those without a load", x.worst(), 1);
        Palaces.put(x, 0, 2, 0, 0);
        Palaces.put(x, 1, 2, 3, 0);
        Palaces.put(x, 0, 2, 0, 1);
        Check.is("18 the one with a load", x.worst(), 3);
        Palaces.put(x, 0, 2, 3, 1);
        Check.is("18 the one that bears less", x.worst(), 4);

        SawnIce y = new SawnIce();
        Palaces.put(y, 0, 1, 0, 0);
        Palaces.put(y, 0, 1, 2, 0);
        Palaces.put(y, 0, 1, 2, 1);
        Palaces.put(y, 0, 1, 0, 1);
        Check.is("18 of several the lowest number", y.worst(), 0);
        Palaces.put(y, 0, 6, 4, 0);
        Palaces.put(y, 0, 6, 4, 1);
        Palaces.put(y, 0, 2, 4, 2);
        Check.is("18 the part counts, not the load", y.worst(), 4);
        Palaces.put(y, 0, 1, 2, 2);
        Check.is("18 more on the other", y.worst(), 1);
    }
}
