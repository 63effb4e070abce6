import java.util.NoSuchElementException;

/** Boundary cases of blocks, racks, the wall, loads, the sun, falling and rooms, each under its sentence. */
public final class WallEdgesTest {
    private static final Class<UnsupportedOperationException> REFUSED = UnsupportedOperationException.class;
    private static final Class<NoSuchElementException> NONE = NoSuchElementException.class;

    public static void main(String[] args) {
        numbersOfBlocks();
        masses();
        racks();
        corners();
        lengths();
        supportedColumns();
        halfOfItsLength();
        loads();
        loadsOfCourses();
        bears();
        loadsAsThingsAreNow();
        hoursOfTheSun();
        heights();
        shadows();
        withoutSun();
        falling();
        rooms();
        noRooms();
        worst();
        emptyWall();
        fullWall();
        Check.end("WallEdgesTest");
    }

    private static void numbersOfBlocks() {
        Doc.terms("At most 40 blocks are sawn, numbered from 0.");
        SawnIce x = new SawnIce();
        for (int number = 0; number <= 39; number++) {
            Check.is("number", x.saw(number % 2, 1, number % 2), number);
            x.take(number);
        }
        Check.is("the greatest number", x.sign(39), 't');
        Check.is("sawn", x.account(4), 40);
        Check.is("length is left", x.account(2), 160);
        Check.fails("one more", REFUSED, () -> x.saw(0, 1, 0));
        Check.is("still", x.account(4), 40);
    }

    private static void masses() {
        Doc.terms("A block is a slab, 0, or a wedge, 1, with a length from 1 to 6 and a mass, a float: its length times"
                + " the thickness of then, both as floats, times 1.0f for a slab or 0.5f for a wedge.");
        for (int thickness : new int[] {10, 11, 20, 60}) {
            SawnIce x = Palaces.iceOf(thickness);
            for (int length = 1; length <= 6; length++) {
                int slab = x.saw(0, length, 0);
                int wedge = x.saw(1, length, 1);
                Check.is("slab of " + length, x.mass(slab), (float) (length * thickness));
                Check.is("wedge of " + length, x.mass(wedge), length * thickness / 2.0f);
                Check.is("its length", x.blockOf(slab, 1), length);
                x.take(slab);
                x.take(wedge);
            }
            int early = x.saw(0, 1, 0);
            Palaces.hour(x, thickness < 60 ? -5 : 5);
            Check.is("the thickness of then", x.mass(early), (float) thickness);
        }
        Doc.terms("The masses of blocks in racks stay.");
        SawnIce x = new SawnIce();
        x.saw(0, 1, 0);
        x.saw(1, 1, 1);
        x.visit(50);
        Palaces.heatAll(x, 20);
        x.pass(48);
        Check.is("slab", x.mass(0), 20.0f);
        Check.is("wedge", x.mass(1), 10.0f);
    }

    private static void racks() {
        Doc.terms("The rack 0 is for slabs, the rack 1 is for wedges; each has the places 0 to 4, and a block that comes"
                + " takes the lowest free one.");
        for (int rack = 0; rack <= 1; rack++) {
            int kind = rack;
            SawnIce x = new SawnIce();
            for (int place = 0; place <= 4; place++) {
                Check.is("empty", x.inRack(rack, place), -1);
                int block = x.saw(kind, 1, rack);
                Check.is("its place", x.blockOf(block, 6), place);
                Check.is("there", x.inRack(rack, place), block);
            }
            Check.fails("full", REFUSED, () -> x.saw(kind, 1, kind));
            for (int place = 4; place >= 0; place--) {
                x.take(x.inRack(rack, place));
                Check.is("a place in a full rack", x.blockOf(x.saw(kind, 1, rack), 6), place);
            }
            x.take(x.inRack(rack, 4));
            x.take(x.inRack(rack, 1));
            x.take(x.inRack(rack, 3));
            int[] free = {1, 3, 4};
            for (int place : free) {
                Check.is("the lowest free one", x.blockOf(x.saw(kind, 1, rack), 6), place);
            }
            x.lay(x.inRack(rack, 0), 0, 0);
            Check.is("free when laid", x.inRack(rack, 0), -1);
            Check.is("taken again", x.blockOf(x.saw(kind, 1, rack), 6), 0);
            for (int place = 0; place <= 4; place++) {
                Check.is("the other rack is empty", x.inRack(1 - rack, place), -1);
            }
        }
    }

    private static void corners() {
        Doc.terms("The wall has the columns 0 to 11 and the courses 0 to 7.");
        SawnIce x = new SawnIce();
        Palaces.tower(x, 0, 8);
        Palaces.tower(x, 11, 8);
        for (int course = 0; course <= 7; course++) {
            Check.is("column 0", x.at(0, course), course);
            Check.is("column 1", x.at(1, course), -1);
            Check.is("column 10", x.at(10, course), -1);
            Check.is("column 11", x.at(11, course), 8 + course);
        }
        Check.is("a low corner", x.blockOf(8, 3) + " " + x.blockOf(8, 4), "11 0");
        Check.is("a high corner", x.blockOf(7, 3) + " " + x.blockOf(7, 4), "0 7");
    }

    private static void lengths() {
        Doc.terms("A block on the wall has a first column and a course, and fills as many columns of this course as its"
                + " length, from the first one on.");
        for (int length = 1; length <= 6; length++) {
            for (int first : new int[] {0, 3, 12 - length}) {
                SawnIce x = new SawnIce();
                Palaces.put(x, 1, length, first, 0);
                for (int column = 0; column <= 11; column++) {
                    boolean isIn = column >= first && column < first + length;
                    Check.is(length + " from " + first + " on, at " + column, x.at(column, 0), isIn ? 0 : -1);
                }
                Check.is("all of them", x.account(11), length);
            }
        }
    }

    private static void supportedColumns() {
        Doc.terms("Its supported columns are those of it that are filled in the course below, all of them in the course"
                + " 0.");
        for (int length = 1; length <= 6; length++) {
            SawnIce x = new SawnIce();
            Check.is("in the course 0", x.lay(x.saw(0, length, 0), 2, 0), length);
        }
        SawnIce x = new SawnIce();
        Palaces.put(x, 0, 2, 0, 0);
        Palaces.put(x, 0, 2, 4, 0);
        Palaces.put(x, 0, 2, 8, 0);
        Check.is("two and one of five", x.lay(x.saw(0, 5, 0), 0, 1), 3);
        Check.is("one and two of six", x.lay(x.saw(0, 6, 0), 5, 1), 3);
        Check.is("the course below, not the ground", x.lay(x.saw(0, 4, 0), 1, 2), 4);
        Check.is("one of one", x.lay(x.saw(0, 1, 0), 2, 3), 1);
    }

    private static void halfOfItsLength() {
        Doc.terms("It is supported if these are at least half of its length.");
        int[] least = {0, 1, 1, 2, 2, 3, 3};
        for (int length = 1; length <= 6; length++) {
            for (int filled = 0; filled <= length; filled++) {
                SawnIce x = new SawnIce();
                int block = x.saw(1, length, 1);
                if (filled > 0) {
                    Palaces.put(x, 0, filled, 0, 0);
                }
                String what = filled + " of " + length;
                if (filled >= least[length]) {
                    Check.is(what, x.lay(block, 0, 1), filled);
                } else {
                    Check.fails(what, REFUSED, () -> x.lay(block, 0, 1));
                }
            }
            Check.is("falls from " + least[length] + " of " + length, fallsBy(length, least[length]), true);
            if (least[length] < length) {
                Check.is("stays on " + least[length] + " of " + length, fallsBy(length, least[length] + 1), false);
            }
        }
    }

    /** Whether a slab falls when the first of the columns that support it melts away. */
    private static boolean fallsBy(int length, int supported) {
        SawnIce x = Palaces.iceOf(12);
        Palaces.heatAll(x, 0);
        int weak = Palaces.put(x, 1, 1, 0, 0);
        x.visit(50);
        x.pass(1);
        for (int column = 1; column < supported; column++) {
            Palaces.put(x, 0, 1, column, 0);
        }
        int block = Palaces.put(x, 0, length, 0, 1);
        x.visit(1);
        x.pass(1);
        Check.is("the weak one melts", x.sign(weak), 'm');
        return x.sign(block) == 'f';
    }

    private static void loads() {
        Doc.terms("The load of a block on the wall is a float, 0.0f at first.");
        SawnIce x = new SawnIce();
        Palaces.put(x, 0, 6, 0, 0);
        Check.is("nothing on it", x.load(0, false), 0);
        Check.is("nothing on it, by the other way", x.loadAgain(0), 0);
        Palaces.put(x, 0, 6, 6, 0);
        Palaces.put(x, 0, 1, 6, 1);
        Check.is("beside it only", x.load(0, false), 0);
        Check.is("beside it only, by the other way", x.loadAgain(0), 0);
    }

    private static void loadsOfCourses() {
        Doc.terms("Courses are gone through from the course 7 down to the course 1, and the blocks of each by their"
                + " numbers:");
        SawnIce x = new SawnIce();
        Palaces.tower(x, 4, 7);
        Check.is("the course 6, with none on it", x.load(6, false), 0);
        Palaces.put(x, 1, 1, 4, 7);
        for (int course = 0; course <= 7; course++) {
            float due = course == 7 ? 0.0f : 10.0f + 20.0f * (6 - course);
            Check.is("course " + course, x.load(course, false), Palaces.bits(due));
            Check.is("course " + course + " by the other way", x.loadAgain(course), Palaces.bits(due));
        }
        Doc.terms("for each block of the course below on which the block lies, (the mass of the block plus its load)"
                + " times the number of columns in which it lies on that one, as a float, divided by the number of its"
                + " supported columns, as a float, is added to the load of that one.");
        // The masses are no whole numbers, so that another order of the sum or the division would tell.
        SawnIce y = new SawnIce();
        y.saw(0, 3, 0);
        Palaces.put(y, 0, 1, 0, 0);
        Palaces.put(y, 0, 5, 1, 0);
        Palaces.put(y, 1, 3, 6, 0);
        Palaces.put(y, 1, 4, 3, 1);
        y.lay(0, 0, 1);
        Palaces.put(y, 0, 2, 7, 1);
        y.visit(7);
        y.pass(3);
        float a = y.mass(0);
        float b = y.mass(4);
        float c = y.mass(5);
        Check.is("one column of three", y.load(1, false), Palaces.bits(a * 1.0f / 3.0f));
        Check.is("two of three, three of four", y.load(2, false),
                Palaces.bits(0.0f + a * 2.0f / 3.0f + b * 3.0f / 4.0f));
        Check.is("one of four, two of two", y.load(3, false), Palaces.bits(0.0f + b * 1.0f / 4.0f + c * 2.0f / 2.0f));
        for (int block = 0; block <= 5; block++) {
            Check.is("alike by the other way: " + block, y.loadAgain(block), y.load(block, false));
        }
    }

    private static void bears() {
        Doc.terms("What a block bears is its mass, times 4.0f for a slab or 2.0f for a wedge, times (1.0f plus (0.1f"
                + " times its joint, as a float)).");
        SawnIce x = new SawnIce();
        Palaces.put(x, 0, 3, 0, 0);
        Palaces.put(x, 1, 3, 3, 0);
        for (int joint = 0; joint <= 9; joint++) {
            float factor = 1.0f + (0.1f * (float) joint);
            Check.is("slab with the joint " + joint, x.load(0, true), Palaces.bits(60.0f * 4.0f * factor));
            Check.is("wedge with the joint " + joint, x.load(1, true), Palaces.bits(30.0f * 2.0f * factor));
            x.pass(1);
        }
        Check.is("no more", x.load(0, true), Palaces.bits(60.0f * 4.0f * (1.0f + (0.1f * 9.0f))));
        Doc.terms("The joint of a block is from 0 to 9, and 0 when it is laid.");
        int late = x.saw(0, 1, 0);
        x.pass(12);
        x.lay(late, 0, 1);
        Check.is("laid late", x.blockOf(late, 5), 0);
        Check.is("the others keep theirs", x.blockOf(0, 5), 9);
        Check.is("laid late, bears", x.load(late, true), Palaces.bits(x.mass(late) * 4.0f));
    }

    private static void loadsAsThingsAreNow() {
        Doc.terms("Loads and what blocks bear are told as things are now.");
        SawnIce x = new SawnIce();
        Palaces.put(x, 0, 2, 0, 0);
        Check.is("no load yet", x.load(0, false), 0);
        Palaces.put(x, 0, 1, 0, 1);
        Check.is("as soon as it is laid", x.load(0, false), Palaces.bits(20.0f));
        Check.is("and by the other way", x.loadAgain(0), Palaces.bits(20.0f));
        x.undo();
        Check.is("and undone", x.load(0, false), 0);
        x.visit(10);
        x.pass(1);
        Check.is("bears by the mass and the joint of now", x.load(0, true),
                Palaces.bits((40.0f - (0.1f * 10.0f)) * 4.0f * (1.0f + (0.1f * 1.0f))));
    }

    private static void hoursOfTheSun() {
        Doc.terms("In the hours of the day 6 to 11 the sun stands to the left, 12 to 17 to the right; else there is"
                + " none.");
        SawnIce x = new SawnIce();
        Palaces.tower(x, 0, 2);
        int behindLeft = Palaces.put(x, 0, 5, 1, 0);
        int behindRight = Palaces.put(x, 0, 5, 6, 0);
        Palaces.tower(x, 11, 2);
        String left = "ssssssssssss......ssssss";
        String right = "ssssss......ssssssssssss";
        for (int hour = 0; hour <= 23; hour++) {
            Check.is("a tower to the left, hour " + hour, x.isShady(behindLeft, hour), left.charAt(hour) == 's');
            Check.is("a tower to the right, hour " + hour, x.isShady(behindRight, hour), right.charAt(hour) == 's');
        }
    }

    private static void heights() {
        Doc.terms("The height of a column is 1 more than the highest course in which it is filled, or 0.");
        for (int height = 0; height <= 8; height++) {
            SawnIce x = new SawnIce();
            Palaces.tower(x, 5, height);
            Check.is("of a tower", x.height(5), height);
            Check.is("beside it", x.height(4) + x.height(6), 0);
        }
        SawnIce x = Palaces.gate();
        Check.is("over a gap", x.height(4), 2);
        SawnIce y = new SawnIce();
        Palaces.tower(y, 0, 7);
        Palaces.put(y, 0, 2, 0, 7);
        Check.is("in the course 7 alone", y.height(1), 8);
    }

    private static void shadows() {
        Doc.terms("When the sun stands to the left, a block is in the shadow if there is a column to the left of its"
                + " first one, at a distance d, whose height is at least 1 more than its course and d together; when it"
                + " stands to the right, likewise with the columns to the right of its last one.");
        for (int course = 0; course <= 1; course++) {
            for (int distance = 1; distance <= 7; distance++) {
                shadowAt(course, distance);
            }
        }
        SawnIce x = new SawnIce();
        Palaces.tower(x, 3, 3);
        int wide = Palaces.put(x, 0, 6, 4, 0);
        Palaces.tower(x, 11, 2);
        Check.is("from its first column, not its last", x.isShady(wide, 6), true);
        Check.is("from its last column: 2 columns off, height 2", x.isShady(wide, 12), false);
        SawnIce y = new SawnIce();
        Palaces.put(y, 0, 2, 5, 0);
        Palaces.put(y, 0, 2, 5, 1);
        Check.is("not from its own columns, left", y.isShady(0, 6), false);
        Check.is("not from its own columns, right", y.isShady(0, 12), false);
    }

    /** A tower at this distance to the left and to the right, just high enough and just too low. */
    private static void shadowAt(int course, int distance) {
        for (int height = 1; height <= 8; height++) {
            boolean isShady = height >= 1 + course + distance;
            String what = "height " + height + ", course " + course + ", distance " + distance;
            SawnIce left = new SawnIce();
            Palaces.tower(left, 0, height);
            Palaces.tower(left, distance, course + 1);
            int block = left.at(distance, course);
            Check.is("left, " + what, left.isShady(block, 8), isShady);
            Check.is("left only, " + what, left.isShady(block, 14), false);
            SawnIce right = new SawnIce();
            Palaces.tower(right, 11, height);
            Palaces.tower(right, 11 - distance, course + 1);
            int other = right.at(11 - distance, course);
            Check.is("right, " + what, right.isShady(other, 14), isShady);
            Check.is("right only, " + what, right.isShady(other, 8), false);
        }
    }

    private static void withoutSun() {
        Doc.terms("Without a sun all blocks are in the shadow.");
        SawnIce x = new SawnIce();
        Palaces.put(x, 0, 1, 5, 0);
        for (int hour = 0; hour <= 23; hour++) {
            Check.is("alone on the wall, hour " + hour, x.isShady(0, hour), hour < 6 || hour > 17);
        }
    }

    private static void falling() {
        Doc.terms("The courses are gone through from the course 1 up to the course 7, and the blocks of each by their"
                + " numbers: one that is not supported falls and is gone.");
        // The ground melts away: all the seven courses above fall in the same hour, whatever their numbers.
        SawnIce x = Palaces.iceOf(12);
        Palaces.heatAll(x, 0);
        int high = x.saw(0, 1, 0);
        Palaces.put(x, 1, 1, 3, 0);
        x.visit(50);
        x.pass(1);
        for (int course = 1; course <= 6; course++) {
            Palaces.put(x, 0, 1, 3, course);
        }
        x.lay(high, 3, 7);
        int beside = Palaces.put(x, 0, 1, 4, 0);
        x.visit(1);
        Check.is("all eight", x.pass(1), 8);
        Check.is("one melted, seven fallen, the ground stays", Palaces.signs(x), "fmffffffw");
        Check.is("gone from the wall", x.height(3) + " " + x.account(11), "0 1");
        Check.is("on the ground none falls", x.sign(beside), 'w');
    }

    private static String roomsOf(SawnIce x, int course) {
        return x.rooms(course, 0) + " " + x.rooms(course, 1) + " " + x.rooms(course, 2);
    }

    private static void rooms() {
        Doc.terms("A room of a course is a row of columns side by side that are not filled in it, between two columns of"
                + " it that are filled, and above each of which the course above is filled.");
        SawnIce x = new SawnIce();
        for (int column = 0; column <= 10; column += 2) {
            Palaces.put(x, 0, 1, column, 0);
        }
        Check.is("no roof", roomsOf(x, 0), "0 0 -1");
        Palaces.put(x, 0, 6, 0, 1);
        Check.is("the roof ends over a room", roomsOf(x, 0), "3 1 1");
        Palaces.put(x, 0, 6, 6, 1);
        Check.is("five of 1, none at the end of the wall", roomsOf(x, 0), "5 1 1");

        SawnIce y = new SawnIce();
        Palaces.put(y, 0, 3, 0, 0);
        Palaces.put(y, 0, 3, 9, 0);
        Palaces.put(y, 0, 6, 0, 1);
        Check.is("half a roof", roomsOf(y, 0), "0 0 -1");
        Palaces.put(y, 0, 6, 6, 1);
        Check.is("the widest room", roomsOf(y, 0), "1 6 3");
        Check.is("an empty course above", roomsOf(y, 1), "0 0 -1");

        SawnIce z = new SawnIce();
        z.saw(0, 3, 0);
        Palaces.tower(z, 0, 7);
        Palaces.tower(z, 2, 7);
        z.lay(0, 0, 7);
        Check.is("under the course 7", roomsOf(z, 6), "1 1 1");
        Check.is("two courses below a roof", roomsOf(z, 5), "0 0 -1");

        Doc.promise(16, "1 for the columns of the widest one, 0 without one, 2 for the first column of that one, of"
                + " several the leftmost, -1 without one");
        SawnIce w = new SawnIce();
        Palaces.put(w, 0, 1, 0, 0);
        Palaces.put(w, 0, 1, 2, 0);
        Palaces.put(w, 0, 2, 5, 0);
        Palaces.put(w, 0, 1, 9, 0);
        Palaces.put(w, 0, 1, 11, 0);
        Palaces.put(w, 0, 2, 0, 1);
        Check.is("one of 1", roomsOf(w, 0), "1 1 1");
        Palaces.put(w, 0, 2, 6, 1);
        Palaces.put(w, 0, 2, 8, 1);
        Check.is("a wider one", roomsOf(w, 0), "2 2 7");
        Palaces.put(w, 0, 2, 2, 1);
        Palaces.put(w, 0, 2, 4, 1);
        Check.is("as wide, to its left", roomsOf(w, 0), "3 2 3");
        Palaces.put(w, 0, 2, 10, 1);
        Check.is("a small one at the right", roomsOf(w, 0), "4 2 3");
        Check.is("without a room", roomsOf(w, 1), "0 0 -1");
    }

    private static void noRooms() {
        Doc.terms("A row of columns above which the next course is not filled everywhere is no room, and the course 7"
                + " has none.");
        // A row of three under roofs that miss its first, its middle or its last column.
        int[][][] roofs = {{{3, 4}}, {{1, 2}, {4, 2}}, {{0, 4}}, {{0, 4}, {4, 2}}};
        String[] due = {"0 0 -1", "0 0 -1", "0 0 -1", "1 3 2"};
        for (int i = 0; i < roofs.length; i++) {
            SawnIce x = new SawnIce();
            Palaces.put(x, 0, 2, 0, 0);
            Palaces.put(x, 0, 2, 5, 0);
            for (int[] roof : roofs[i]) {
                Palaces.put(x, 0, roof[1], roof[0], 1);
            }
            Check.is("roof " + i, roomsOf(x, 0), due[i]);
        }
        // A roof at either end of the wall has no filled column on its other side.
        SawnIce ends = new SawnIce();
        Palaces.put(ends, 0, 2, 1, 0);
        Palaces.put(ends, 0, 2, 9, 0);
        Palaces.put(ends, 0, 2, 0, 1);
        Palaces.put(ends, 0, 2, 10, 1);
        Check.is("at the ends of the wall", roomsOf(ends, 0), "0 0 -1");
        SawnIce y = new SawnIce();
        Palaces.tower(y, 0, 8);
        Palaces.tower(y, 2, 8);
        for (int course = 0; course <= 7; course++) {
            Check.is("between two towers, course " + course, roomsOf(y, course), "0 0 -1");
        }
    }

    private static void worst() {
        Doc.promise(18, "its load divided by that; of several the lowest number");
        SawnIce x = new SawnIce();
        Palaces.put(x, 0, 1, 0, 0);
        Palaces.put(x, 0, 1, 2, 0);
        Check.is("none has a load", x.worst(), 0);
        Palaces.put(x, 0, 1, 2, 1);
        Check.is("one has", x.worst(), 1);
        Palaces.put(x, 0, 1, 0, 1);
        Check.is("two have the same", x.worst(), 0);
        Palaces.put(x, 0, 6, 4, 0);
        Palaces.put(x, 0, 6, 4, 1);
        Check.is("three have the same part, one of them a greater load", x.worst(), 0);
        Palaces.put(x, 0, 1, 4, 2);
        Check.is("a little more on the long one", x.worst(), 4);
        Doc.promise(18, "Throws `NoSuchElementException` if there is no block on the wall");
        SawnIce y = new SawnIce();
        Check.fails("a new object", NONE, () -> y.worst());
        y.saw(0, 1, 0);
        y.saw(1, 1, 1);
        y.take(0);
        Check.fails("in a rack and gone", NONE, () -> y.worst());
        y.lay(1, 0, 0);
        Check.is("the last block", y.worst(), 1);
    }

    private static void emptyWall() {
        Doc.promise(28, "each block that was sawn is in a rack, on the wall or gone, the length that is left and the"
                + " lengths of all blocks are 200, each block on the wall is supported, and loads are found alike by"
                + " both ways.");
        SawnIce x = new SawnIce();
        Check.is("without a block", x.isWell(), true);
        for (int number = 0; number < 40; number++) {
            x.saw(1, 5, 1);
            Check.is("in a rack", x.isWell(), true);
            x.take(number);
            Check.is("gone", x.isWell(), true);
        }
        Check.is("nothing is left in the pond", x.account(2), 0);
        Check.is("nothing on the wall", x.account(6) + x.account(11), 0);
        Check.is("all are taken", x.account(7), 40);
    }

    private static void fullWall() {
        Doc.promise(27, "11 for the columns of the wall that are filled, of all courses");
        SawnIce x = new SawnIce();
        for (int course = 0; course <= 7; course++) {
            Check.is("columns", x.account(11), 12 * course);
            Palaces.put(x, 0, 6, 0, course);
            Palaces.put(x, 0, 6, 6, course);
        }
        Check.is("all columns of all courses", x.account(11), 96);
        Check.is("blocks on the wall", x.account(6), 16);
        Check.is("well", x.isWell(), true);
        Check.is("height at the left end", x.height(0), 8);
        Check.is("height at the right end", x.height(11), 8);
        Check.is("load below", x.load(0, false), Palaces.bits(7 * 120.0f));
        Check.is("load below by the other way", x.loadAgain(1), Palaces.bits(7 * 120.0f));
        Check.is("no load on the top", x.load(15, false), 0);
        Check.is("worst", x.worst(), 0);
        Check.is("no shadow from the top of the same height", x.isShady(15, 6), false);
        Check.is("a shadow on what is low", x.isShady(1, 6), true);
        int racked = x.saw(0, 1, 0);
        for (int column = 0; column <= 11; column++) {
            for (int course = 0; course <= 7; course += 7) {
                int at = column;
                int high = course;
                Check.fails("no place at " + column + ", " + course, REFUSED, () -> x.lay(racked, at, high));
                Check.is("filled", Palaces.refusal(x), "8: " + (2 * course + column / 6));
            }
        }
        for (int course = 0; course <= 7; course++) {
            Check.is("no room in " + course, roomsOf(x, course), "0 0 -1");
        }
        Check.fails("it is too much", NONE, () -> x.safe());
        Check.is("at once", x.goneIn(), 1);
        Check.is("none would be left", x.left(1), 0);
        Check.is("all go", x.pass(1), 16);
        Check.is("two broken, fourteen fallen", x.account(9) + " " + x.account(10), "2 14");
        Check.is("an empty wall", x.account(11), 0);
        Check.is("well then", x.isWell(), true);
    }
}
