import java.util.NoSuchElementException;

/**
 * A palace of ice: blocks sawn from a pond, two racks, a wall of courses, hours that freeze and melt.
 *
 * <p>Every row is made in a constructor and used again, so that no call makes an object but its exception.
 */
public final class SawnIce {
    private static final int BLOCKS = 40;
    private static final int COLUMNS = 12;
    private static final int COURSES = 8;
    private static final int HOURS = 24;
    private static final int RACKS = 2;
    private static final int PLACES = 5;
    private static final int POND_LENGTH = 200;
    private static final int MOST_ICE = 60;
    private static final int LEAST_ICE = 10;
    private static final int MOST_LENGTH = 6;
    private static final int MOST_VISITORS = 50;
    private static final int MOST_JOINT = 9;
    private static final int COLDEST = -30;
    private static final int HOTTEST = 20;
    private static final int MOST_HOURS = 48;
    private static final int FARTHEST = 96;
    private static final int NOON = 12;
    private static final int INPUT = 60;
    private static final int CHANGES = 8;

    private static final int SLAB = 0;
    private static final int WEDGE = 1;

    private static final int UNSAWN = -1;
    private static final int IN_RACK = 0;
    private static final int ON_WALL = 1;
    private static final int GONE = 2;

    private static final int TAKEN = 1;
    private static final int MELTED = 2;
    private static final int BROKEN = 3;
    private static final int FALLEN = 4;

    private static final int NO_FAULT = 0;
    private static final int NO_SUCH_INDEX = 1;
    private static final int BAD_ARGUMENT = 2;
    private static final int REFUSED = 3;

    private final Palace palace = new Palace();
    private final Palace before = new Palace();
    private final Palace snapshot = new Palace();
    private final Works works = new Works();
    private final Ahead ahead = new Ahead();
    private final Loads loads = new Loads();
    private final Outline outline = new Outline();
    private final History history = new History();
    private final Orders orders = new Orders();
    private boolean hasSnapshot = false;

    public SawnIce() {
    }

    // Weather and visitors.

    public int heat(int hour, int temperature) throws IndexOutOfBoundsException, IllegalArgumentException {
        permit(works.faultOf(palace, 't', hour, temperature, 0));
        return works.perform(palace, 't', hour, temperature, 0);
    }

    public int visit(int visitors) throws IllegalArgumentException {
        permit(works.faultOf(palace, 'v', visitors, 0, 0));
        return works.perform(palace, 'v', visitors, 0, 0);
    }

    // Blocks and hours.

    public int saw(int kind, int length, int rack)
            throws IndexOutOfBoundsException, IllegalArgumentException, UnsupportedOperationException {
        permit(works.faultOf(palace, 's', kind, length, rack));
        return works.perform(palace, 's', kind, length, rack);
    }

    public int lay(int block, int column, int course)
            throws IndexOutOfBoundsException, UnsupportedOperationException {
        permit(works.faultOf(palace, 'l', block, column, course));
        return works.perform(palace, 'l', block, column, course);
    }

    public int take(int block) throws IndexOutOfBoundsException, UnsupportedOperationException {
        permit(works.faultOf(palace, 'x', block, 0, 0));
        return works.perform(palace, 'x', block, 0, 0);
    }

    public int pass(int hours) throws IllegalArgumentException {
        permit(works.faultOf(palace, 'h', hours, 0, 0));
        return works.perform(palace, 'h', hours, 0, 0);
    }

    // What there is.

    public int blockOf(int block, int what) throws IndexOutOfBoundsException, IllegalArgumentException {
        requireSawn(block);
        if (what < 0 || what > 7) {
            throw new IllegalArgumentException();
        }
        return palace.numberOf(block, what);
    }

    public float mass(int block) throws IndexOutOfBoundsException, NoSuchElementException {
        requireSawn(block);
        if (palace.isGone(block)) {
            throw new NoSuchElementException();
        }
        return palace.massOf(block);
    }

    public int load(int block, boolean isBorne) throws IndexOutOfBoundsException, NoSuchElementException {
        requireSawn(block);
        requireOnWall(block);
        if (isBorne) {
            return Bits.ofFloat(Loads.borneBy(palace, block));
        }
        loads.sumUp(palace);
        return Bits.ofFloat(loads.loadOf(block));
    }

    public int loadAgain(int block) throws IndexOutOfBoundsException, NoSuchElementException {
        requireSawn(block);
        requireOnWall(block);
        return Bits.ofFloat(Loads.loadFromAbove(palace, block));
    }

    public int at(int column, int course) throws IndexOutOfBoundsException {
        if (!Palace.isColumn(column) || !Palace.isCourse(course)) {
            throw new IndexOutOfBoundsException();
        }
        return palace.blockAt(column, course);
    }

    public int height(int column) throws IndexOutOfBoundsException {
        if (!Palace.isColumn(column)) {
            throw new IndexOutOfBoundsException();
        }
        return Outline.heightOf(palace, column);
    }

    public boolean isShady(int block, int hour) throws IndexOutOfBoundsException, NoSuchElementException {
        requireSawn(block);
        if (!Palace.isHour(hour)) {
            throw new IndexOutOfBoundsException();
        }
        requireOnWall(block);
        outline.measure(palace);
        return outline.isInShadow(palace, block, hour);
    }

    public char sign(int block) throws IndexOutOfBoundsException {
        requireSawn(block);
        return palace.signOf(block);
    }

    public int rooms(int course, int what) throws IndexOutOfBoundsException, IllegalArgumentException {
        if (!Palace.isCourse(course)) {
            throw new IndexOutOfBoundsException();
        }
        if (what < 0 || what > 2) {
            throw new IllegalArgumentException();
        }
        return Outline.roomNumber(palace, course, what);
    }

    public int inRack(int rack, int place) throws IndexOutOfBoundsException {
        if (!Palace.isRack(rack) || place < 0 || place >= PLACES) {
            throw new IndexOutOfBoundsException();
        }
        return palace.blockInRack(rack, place);
    }

    public int worst() throws NoSuchElementException {
        loads.sumUp(palace);
        int block = loads.mostBurdened(palace);
        if (block < 0) {
            throw new NoSuchElementException();
        }
        return block;
    }

    // Ahead.

    public int goneIn() throws NoSuchElementException {
        int hours = ahead.hoursToFirstGone(palace);
        if (hours < 1) {
            throw new NoSuchElementException();
        }
        return hours;
    }

    public int massBits(int block, int hours) throws IndexOutOfBoundsException, IllegalArgumentException {
        requireSawn(block);
        requireHoursAhead(hours);
        return ahead.bitsOfMass(palace, block, hours);
    }

    public int safe() throws NoSuchElementException {
        // Lighter blocks press less, so that fewer visitors need not be safer: each number is tried.
        for (int visitors = MOST_VISITORS; visitors >= 0; visitors--) {
            if (ahead.isSafeFor(palace, visitors)) {
                return visitors;
            }
        }
        throw new NoSuchElementException();
    }

    public int left(int hours) throws IllegalArgumentException {
        requireHoursAhead(hours);
        return ahead.blocksOnWall(palace, hours);
    }

    // Texts, accounts, undo and snapshot.

    public int append(char c) throws IllegalStateException {
        if (!orders.hasSpace()) {
            throw new IllegalStateException();
        }
        orders.add(c);
        return orders.inputLength();
    }

    public int read() throws IllegalArgumentException, UnsupportedOperationException {
        boolean isGood = orders.understand();
        orders.empty();
        if (!isGood) {
            throw new IllegalArgumentException();
        }
        before.copyFrom(palace);
        int fault = NO_FAULT;
        for (int i = 0; i < orders.number() && fault == NO_FAULT; i++) {
            fault = works.faultOf(palace, orders.signOf(i), orders.firstOf(i), orders.secondOf(i), orders.thirdOf(i));
            if (fault == NO_FAULT) {
                works.perform(palace, orders.signOf(i), orders.firstOf(i), orders.secondOf(i), orders.thirdOf(i));
            }
        }
        if (fault != NO_FAULT) {
            palace.copyFrom(before);
        }
        if (fault == REFUSED) {
            throw new UnsupportedOperationException();
        }
        if (fault != NO_FAULT) {
            throw new IllegalArgumentException();
        }
        history.remember(before);
        return orders.number();
    }

    public int errorPosition() {
        return orders.errorOffset();
    }

    public int refusal(boolean isDetail) throws NoSuchElementException {
        if (works.reason == 0) {
            throw new NoSuchElementException();
        }
        return isDetail ? works.detail : works.reason;
    }

    public int account(int what) throws IllegalArgumentException {
        if (what < 0 || what > 14) {
            throw new IllegalArgumentException();
        }
        switch (what) {
            case 13:
                return orders.inputLength();
            case 14:
                return history.number();
            default:
                return palace.accountOf(what);
        }
    }

    public boolean isWell() {
        loads.sumUp(palace);
        return Audit.isAllWell(palace, loads);
    }

    public long meanBits() throws ArithmeticException {
        int number = palace.countOnWall();
        if (number < 1) {
            throw new ArithmeticException();
        }
        return Bits.ofDouble(palace.sumOfMasses() / (double) number);
    }

    public int undo() throws IllegalStateException {
        if (history.number() < 1) {
            throw new IllegalStateException();
        }
        history.goBack(palace);
        return history.number();
    }

    public int save() {
        snapshot.copyFrom(palace);
        hasSnapshot = true;
        return palace.sawn;
    }

    public int restore() throws IllegalStateException {
        if (!hasSnapshot) {
            throw new IllegalStateException();
        }
        palace.copyFrom(snapshot);
        history.forget();
        return palace.sawn;
    }

    /** Behind it the change is made. */
    private void permit(int fault) {
        if (fault == NO_SUCH_INDEX) {
            throw new IndexOutOfBoundsException();
        }
        if (fault == BAD_ARGUMENT) {
            throw new IllegalArgumentException();
        }
        if (fault != NO_FAULT) {
            throw new UnsupportedOperationException();
        }
        history.remember(palace);
    }

    private void requireSawn(int block) {
        if (!palace.isSawn(block)) {
            throw new IndexOutOfBoundsException();
        }
    }

    private void requireOnWall(int block) {
        if (!palace.isOnWall(block)) {
            throw new NoSuchElementException();
        }
    }

    private void requireHoursAhead(int hours) {
        if (hours < 0 || hours > MOST_HOURS) {
            throw new IllegalArgumentException();
        }
    }

    /** All that changes can change. */
    private static final class Palace {
        int clock = 0;
        int thickness = 20;
        int pondLeft = POND_LENGTH;
        int visitors = 0;
        int sawn = 0;
        final int[] temperatures = new int[HOURS];
        final int[] kinds = new int[BLOCKS];
        final int[] lengths = new int[BLOCKS];
        final float[] masses = new float[BLOCKS];
        final int[] states = new int[BLOCKS];
        final int[] columns = new int[BLOCKS];
        final int[] courses = new int[BLOCKS];
        final int[] joints = new int[BLOCKS];
        final int[] places = new int[BLOCKS];
        final int[] causes = new int[BLOCKS];
        final int[] wall = new int[COLUMNS * COURSES];
        final int[] racks = new int[RACKS * PLACES];

        Palace() {
            fill(temperatures, -5);
            fill(states, UNSAWN);
            fill(columns, -1);
            fill(courses, -1);
            fill(places, -1);
            fill(wall, -1);
            fill(racks, -1);
        }

        private static void fill(int[] row, int value) {
            for (int i = 0; i < row.length; i++) {
                row[i] = value;
            }
        }

        private static void copyRow(int[] from, int[] to) {
            System.arraycopy(from, 0, to, 0, Math.min(from.length, to.length));
        }

        void copyFrom(Palace other) {
            if (other == null) {
                return;
            }
            clock = other.clock;
            thickness = other.thickness;
            pondLeft = other.pondLeft;
            visitors = other.visitors;
            sawn = other.sawn;
            copyRow(other.temperatures, temperatures);
            copyRow(other.kinds, kinds);
            copyRow(other.lengths, lengths);
            System.arraycopy(other.masses, 0, masses, 0, Math.min(other.masses.length, masses.length));
            copyRow(other.states, states);
            copyRow(other.columns, columns);
            copyRow(other.courses, courses);
            copyRow(other.joints, joints);
            copyRow(other.places, places);
            copyRow(other.causes, causes);
            copyRow(other.wall, wall);
            copyRow(other.racks, racks);
        }

        static boolean isColumn(int column) {
            return column >= 0 && column < COLUMNS;
        }

        static boolean isCourse(int course) {
            return course >= 0 && course < COURSES;
        }

        static boolean isHour(int hour) {
            return hour >= 0 && hour < HOURS;
        }

        static boolean isRack(int rack) {
            return rack >= 0 && rack < RACKS;
        }

        boolean isSawn(int block) {
            return block >= 0 && block < BLOCKS && block < sawn;
        }

        boolean isOnWall(int block) {
            return block >= 0 && block < BLOCKS && states[block] == ON_WALL;
        }

        boolean isInRack(int block) {
            return block >= 0 && block < BLOCKS && states[block] == IN_RACK;
        }

        boolean isGone(int block) {
            return block >= 0 && block < BLOCKS && states[block] == GONE;
        }

        float massOf(int block) {
            return block >= 0 && block < BLOCKS ? masses[block] : 0.0f;
        }

        int hourOfDay() {
            return Math.floorMod(clock, HOURS);
        }

        int temperatureAt(int hour) {
            return isHour(hour) ? temperatures[hour] : 0;
        }

        int blockAt(int column, int course) {
            if (column < 0 || column >= COLUMNS || course < 0 || course >= COURSES) {
                return -1;
            }
            return wall[course * COLUMNS + column];
        }

        int blockInRack(int rack, int place) {
            return isRack(rack) && place >= 0 && place < PLACES ? racks[rack * PLACES + place] : -1;
        }

        int freePlace(int rack) {
            for (int place = 0; place < PLACES; place++) {
                if (isRack(rack) && racks[rack * PLACES + place] < 0) {
                    return place;
                }
            }
            return -1;
        }

        int supportedColumns(int first, int length, int course) {
            if (course == 0) {
                return length;
            }
            int supported = 0;
            for (int i = 0; i < length; i++) {
                if (blockAt(first + i, course - 1) >= 0) {
                    supported++;
                }
            }
            return supported;
        }

        int supportOf(int block) {
            return isOnWall(block) ? supportedColumns(columns[block], lengths[block], courses[block]) : 0;
        }

        boolean isSupported(int block) {
            return block >= 0 && block < BLOCKS && states[block] == ON_WALL
                    && supportedColumns(columns[block], lengths[block], courses[block]) * 2 >= lengths[block];
        }

        /** In how many columns the one block lies on the other, if it is in the course above. */
        int sharedColumns(int upper, int lower) {
            if (upper < 0 || upper >= BLOCKS || lower < 0 || lower >= BLOCKS) {
                return 0;
            }
            int from = Math.max(columns[upper], columns[lower]);
            int to = Math.min(columns[upper] + lengths[upper], columns[lower] + lengths[lower]);
            return Math.max(to - from, 0);
        }

        int addBlock(int kind, int length, int rack) {
            int block = sawn;
            int place = freePlace(rack);
            if (block < 0 || block >= BLOCKS || place < 0 || !isRack(rack)) {
                return -1;
            }
            kinds[block] = kind;
            lengths[block] = length;
            masses[block] = (float) length * (float) thickness * (kind == SLAB ? 1.0f : 0.5f);
            states[block] = IN_RACK;
            places[block] = place;
            racks[rack * PLACES + place] = block;
            pondLeft -= length;
            sawn++;
            return block;
        }

        void putOnWall(int block, int column, int course) {
            if (!isInRack(block)) {
                return;
            }
            leaveRack(block);
            states[block] = ON_WALL;
            columns[block] = column;
            courses[block] = course;
            joints[block] = 0;
            markColumns(block, block);
        }

        void remove(int block, int cause) {
            if (block < 0 || block >= BLOCKS) {
                return;
            }
            if (states[block] == ON_WALL) {
                markColumns(block, -1);
            } else {
                leaveRack(block);
            }
            states[block] = GONE;
            columns[block] = -1;
            courses[block] = -1;
            joints[block] = 0;
            causes[block] = cause;
        }

        private void leaveRack(int block) {
            if (block < 0 || block >= BLOCKS) {
                return;
            }
            int spot = kinds[block] * PLACES + places[block];
            if (spot >= 0 && spot < racks.length) {
                racks[spot] = -1;
            }
            places[block] = -1;
        }

        private void markColumns(int block, int mark) {
            if (block < 0 || block >= BLOCKS) {
                return;
            }
            for (int i = 0; i < lengths[block]; i++) {
                int column = columns[block] + i;
                if (isColumn(column) && isCourse(courses[block])) {
                    wall[courses[block] * COLUMNS + column] = mark;
                }
            }
        }

        int numberOf(int block, int what) {
            if (!isSawn(block)) {
                return -1;
            }
            switch (what) {
                case 0:
                    return kinds[block];
                case 1:
                    return lengths[block];
                case 2:
                    return states[block];
                case 3:
                    return columns[block];
                case 4:
                    return courses[block];
                case 5:
                    return joints[block];
                case 6:
                    return places[block];
                default:
                    return causes[block];
            }
        }

        char signOf(int block) {
            if (isInRack(block)) {
                return 'r';
            }
            if (!isGone(block)) {
                return 'w';
            }
            switch (causes[block]) {
                case TAKEN:
                    return 't';
                case MELTED:
                    return 'm';
                case BROKEN:
                    return 'b';
                default:
                    return 'f';
            }
        }

        int accountOf(int what) {
            switch (what) {
                case 0:
                    return clock;
                case 1:
                    return thickness;
                case 2:
                    return pondLeft;
                case 3:
                    return visitors;
                case 4:
                    return sawn;
                case 5:
                    return countStates(IN_RACK);
                case 6:
                    return countOnWall();
                case 11:
                    return countFilledColumns();
                case 12:
                    return temperatureAt(hourOfDay());
                default:
                    return countCauses(what - 6);
            }
        }

        int countOnWall() {
            return countStates(ON_WALL);
        }

        private int countStates(int state) {
            int number = 0;
            for (int block = 0; block < BLOCKS; block++) {
                if (states[block] == state) {
                    number++;
                }
            }
            return number;
        }

        private int countCauses(int cause) {
            int number = 0;
            for (int block = 0; block < BLOCKS; block++) {
                if (states[block] == GONE && causes[block] == cause) {
                    number++;
                }
            }
            return number;
        }

        private int countFilledColumns() {
            int number = 0;
            for (int i = 0; i < wall.length; i++) {
                if (wall[i] >= 0) {
                    number++;
                }
            }
            return number;
        }

        double sumOfMasses() {
            double sum = 0.0;
            for (int block = 0; block < BLOCKS; block++) {
                if (states[block] == ON_WALL) {
                    sum = sum + (double) masses[block];
                }
            }
            return sum;
        }
    }

    /** The loads of the blocks on a wall, found in two ways, and what blocks bear. */
    private static final class Loads {
        private final float[] row = new float[BLOCKS];

        float loadOf(int block) {
            return block >= 0 && block < BLOCKS ? row[block] : 0.0f;
        }

        static float borneBy(Palace palace, int block) {
            if (!palace.isOnWall(block)) {
                return 0.0f;
            }
            float factor = palace.kinds[block] == SLAB ? 4.0f : 2.0f;
            return palace.masses[block] * factor * (1.0f + 0.1f * (float) palace.joints[block]);
        }

        void sumUp(Palace palace) {
            for (int block = 0; block < BLOCKS; block++) {
                row[block] = 0.0f;
            }
            for (int course = COURSES - 1; course >= 1; course--) {
                for (int block = 0; block < BLOCKS && block < palace.sawn; block++) {
                    if (palace.courses[block] == course) {
                        handDown(palace, block);
                    }
                }
            }
        }

        private void handDown(Palace palace, int upper) {
            if (upper < 0 || upper >= BLOCKS) {
                return;
            }
            int course = palace.courses[upper];
            int supported = palace.supportedColumns(palace.columns[upper], palace.lengths[upper], course);
            if (supported < 1) {
                return;
            }
            float weight = palace.masses[upper] + row[upper];
            int latest = -1;
            for (int i = 0; i < palace.lengths[upper]; i++) {
                int lower = palace.blockAt(palace.columns[upper] + i, course - 1);
                // A block fills columns side by side, so a new one begins where the number differs.
                if (lower >= 0 && lower < BLOCKS && lower != latest) {
                    int shared = palace.sharedColumns(upper, lower);
                    row[lower] = row[lower] + weight * (float) shared / (float) supported;
                    latest = lower;
                }
            }
        }

        static float loadFromAbove(Palace palace, int block) {
            return sumFromAbove(palace, block, 0);
        }

        private static float sumFromAbove(Palace palace, int lower, int depth) {
            float sum = 0.0f;
            if (!palace.isOnWall(lower) || depth >= COURSES) {
                return sum;
            }
            int above = palace.courses[lower] + 1;
            for (int upper = 0; upper < BLOCKS && upper < palace.sawn; upper++) {
                if (palace.courses[upper] == above) {
                    int shared = palace.sharedColumns(upper, lower);
                    int supported = palace.supportOf(upper);
                    if (shared > 0 && supported > 0) {
                        float weight = palace.masses[upper] + sumFromAbove(palace, upper, depth + 1);
                        sum = sum + weight * (float) shared / (float) supported;
                    }
                }
            }
            return sum;
        }

        int firstOverloaded(Palace palace) {
            for (int block = 0; block < BLOCKS && block < palace.sawn; block++) {
                if (palace.isOnWall(block) && row[block] > borneBy(palace, block)) {
                    return block;
                }
            }
            return -1;
        }

        int mostBurdened(Palace palace) {
            int worstBlock = -1;
            float greatest = 0.0f;
            for (int block = 0; block < BLOCKS && block < palace.sawn; block++) {
                float borne = borneBy(palace, block);
                if (palace.isOnWall(block) && borne > 0.0f) {
                    float part = row[block] / borne;
                    if (worstBlock < 0 || part > greatest) {
                        worstBlock = block;
                        greatest = part;
                    }
                }
            }
            return worstBlock;
        }
    }

    /** Heights of columns, the shadows that they cast, and the rooms between them. */
    private static final class Outline {
        private final int[] heights = new int[COLUMNS];

        static int heightOf(Palace palace, int column) {
            for (int course = COURSES - 1; course >= 0; course--) {
                if (palace.blockAt(column, course) >= 0) {
                    return course + 1;
                }
            }
            return 0;
        }

        void measure(Palace palace) {
            for (int column = 0; column < COLUMNS; column++) {
                heights[column] = heightOf(palace, column);
            }
        }

        /** By the heights that were measured last. */
        boolean isInShadow(Palace palace, int block, int hour) {
            if (hour < 6 || hour > 17 || !palace.isOnWall(block)) {
                return true;
            }
            int course = palace.courses[block];
            int first = palace.columns[block];
            return hour < NOON
                    ? isShadedFromLeft(first, course)
                    : isShadedFromRight(first + palace.lengths[block] - 1, course);
        }

        private boolean isShadedFromLeft(int first, int course) {
            for (int column = 0; column < first && column < COLUMNS; column++) {
                if (heights[column] >= course + (first - column) + 1) {
                    return true;
                }
            }
            return false;
        }

        private boolean isShadedFromRight(int last, int course) {
            for (int column = COLUMNS - 1; column > last && column >= 0; column--) {
                if (heights[column] >= course + (column - last) + 1) {
                    return true;
                }
            }
            return false;
        }

        static int roomNumber(Palace palace, int course, int what) {
            int number = 0;
            int widest = 0;
            int firstOfWidest = -1;
            // The column behind the latest filled one; -1 as long as no filled one was met.
            int start = -1;
            boolean isRoofed = true;
            for (int column = 0; column < COLUMNS; column++) {
                if (palace.blockAt(column, course) < 0) {
                    isRoofed = isRoofed && palace.blockAt(column, course + 1) >= 0;
                } else {
                    int width = column - start;
                    if (start >= 0 && width > 0 && isRoofed) {
                        number++;
                        if (width > widest) {
                            widest = width;
                            firstOfWidest = start;
                        }
                    }
                    start = column + 1;
                    isRoofed = true;
                }
            }
            return what == 0 ? number : what == 1 ? widest : firstOfWidest;
        }
    }

    /** Lets hours go by on a palace. */
    private static final class Hours {
        private final Loads loads = new Loads();
        private final Outline outline = new Outline();

        /** Returns how many blocks are gone by them. */
        int letGoBy(Palace palace, int hours) {
            int blocks = palace.countOnWall();
            for (int i = 0; i < hours && i < FARTHEST; i++) {
                int hour = palace.hourOfDay();
                int temperature = palace.temperatureAt(hour);
                changeIce(palace, temperature);
                changeJoints(palace, temperature);
                if (temperature > 0) {
                    melt(palace, hour, temperature);
                }
                warm(palace);
                removeMelted(palace);
                dropUnsupported(palace);
                breakOverloaded(palace);
                palace.clock++;
            }
            return blocks - palace.countOnWall();
        }

        private void changeIce(Palace palace, int temperature) {
            int thickness = palace.thickness;
            if (temperature < 0) {
                thickness += -temperature / 5;
            } else {
                thickness -= temperature / 5;
            }
            palace.thickness = Math.max(0, Math.min(MOST_ICE, thickness));
        }

        private void changeJoints(Palace palace, int temperature) {
            int step = temperature < 0 ? 1 : temperature > 5 ? -1 : 0;
            for (int block = 0; block < BLOCKS && block < palace.sawn; block++) {
                if (palace.isOnWall(block)) {
                    palace.joints[block] = Math.max(0, Math.min(MOST_JOINT, palace.joints[block] + step));
                }
            }
        }

        /** Nothing has gone yet in this hour, so the shadows are still those at its beginning. */
        private void melt(Palace palace, int hour, int temperature) {
            outline.measure(palace);
            for (int block = 0; block < BLOCKS && block < palace.sawn; block++) {
                if (palace.isOnWall(block)) {
                    float part = outline.isInShadow(palace, block, hour) ? 0.005f : 0.01f;
                    palace.masses[block] = palace.masses[block] * (1.0f - part * (float) temperature);
                }
            }
        }

        private void warm(Palace palace) {
            float warmth = 0.1f * (float) palace.visitors;
            for (int block = 0; block < BLOCKS && block < palace.sawn; block++) {
                if (palace.isOnWall(block) && palace.courses[block] <= 1) {
                    palace.masses[block] = palace.masses[block] - warmth;
                }
            }
        }

        private void removeMelted(Palace palace) {
            for (int block = 0; block < BLOCKS && block < palace.sawn; block++) {
                if (palace.isOnWall(block) && palace.masses[block] < 1.0f) {
                    palace.remove(block, MELTED);
                }
            }
        }

        private void dropUnsupported(Palace palace) {
            for (int course = 1; course < COURSES; course++) {
                for (int block = 0; block < BLOCKS && block < palace.sawn; block++) {
                    if (palace.courses[block] == course && !palace.isSupported(block)) {
                        palace.remove(block, FALLEN);
                    }
                }
            }
        }

        /** Each turn takes a block away, so there are no more turns than blocks. */
        private void breakOverloaded(Palace palace) {
            for (int turn = 0; turn < BLOCKS; turn++) {
                loads.sumUp(palace);
                int block = loads.firstOverloaded(palace);
                if (block < 0) {
                    return;
                }
                palace.remove(block, BROKEN);
                dropUnsupported(palace);
            }
        }
    }

    /** What would be if only hours went by, tried out on a palace of its own. */
    private static final class Ahead {
        private final Palace later = new Palace();
        private final Hours hours = new Hours();

        /** 0 if none goes in as many hours as are looked at. */
        int hoursToFirstGone(Palace now) {
            later.copyFrom(now);
            for (int hour = 1; hour <= FARTHEST; hour++) {
                if (hours.letGoBy(later, 1) > 0) {
                    return hour;
                }
            }
            return 0;
        }

        int bitsOfMass(Palace now, int block, int number) {
            later.copyFrom(now);
            hours.letGoBy(later, number);
            return later.isGone(block) ? -1 : Bits.ofFloat(later.massOf(block));
        }

        int blocksOnWall(Palace now, int number) {
            later.copyFrom(now);
            hours.letGoBy(later, number);
            return later.countOnWall();
        }

        /** Whether no block goes up to the end of the next noon's hour. */
        boolean isSafeFor(Palace now, int visitors) {
            later.copyFrom(now);
            later.visitors = visitors;
            int hoursToNoon = Math.floorMod(NOON - now.hourOfDay(), HOURS) + 1;
            for (int hour = 0; hour < hoursToNoon && hour < HOURS; hour++) {
                if (hours.letGoBy(later, 1) > 0) {
                    return false;
                }
            }
            return true;
        }
    }

    /** The changes: what stands against an order, with the reason of the latest refusal, and what it does. */
    private static final class Works {
        private final Hours hours = new Hours();
        int reason = 0;
        int detail = 0;

        int faultOf(Palace palace, char order, int first, int second, int third) {
            switch (order) {
                case 't':
                    return faultOfTemperature(first, second);
                case 'v':
                    return first < 0 || first > MOST_VISITORS ? BAD_ARGUMENT : NO_FAULT;
                case 's':
                    return faultOfSawing(palace, first, second, third);
                case 'l':
                    return faultOfLaying(palace, first, second, third);
                case 'x':
                    return faultOfTaking(palace, first);
                default:
                    return first < 1 || first > MOST_HOURS ? BAD_ARGUMENT : NO_FAULT;
            }
        }

        /** Only behind faultOf, when it found none. */
        int perform(Palace palace, char order, int first, int second, int third) {
            switch (order) {
                case 't':
                    return setTemperature(palace, first, second);
                case 'v':
                    return setVisitors(palace, first);
                case 's':
                    return palace.addBlock(first, second, third);
                case 'l':
                    palace.putOnWall(first, second, third);
                    return palace.supportOf(first);
                case 'x':
                    palace.remove(first, TAKEN);
                    return palace.numberOf(first, 1);
                default:
                    return hours.letGoBy(palace, first);
            }
        }

        private int refuse(int why, int which) {
            reason = why;
            detail = which;
            return REFUSED;
        }

        private int faultOfTemperature(int hour, int temperature) {
            if (!Palace.isHour(hour)) {
                return NO_SUCH_INDEX;
            }
            return temperature < COLDEST || temperature > HOTTEST ? BAD_ARGUMENT : NO_FAULT;
        }

        private int setTemperature(Palace palace, int hour, int temperature) {
            int old = palace.temperatureAt(hour);
            if (Palace.isHour(hour)) {
                palace.temperatures[hour] = temperature;
            }
            return old;
        }

        private int setVisitors(Palace palace, int visitors) {
            int old = palace.visitors;
            palace.visitors = visitors;
            return old;
        }

        private int faultOfSawing(Palace palace, int kind, int length, int rack) {
            if (!Palace.isRack(rack)) {
                return NO_SUCH_INDEX;
            }
            if (kind < SLAB || kind > WEDGE || length < 1 || length > MOST_LENGTH) {
                return BAD_ARGUMENT;
            }
            if (palace.sawn >= BLOCKS) {
                return refuse(1, BLOCKS);
            }
            if (palace.thickness < LEAST_ICE) {
                return refuse(2, palace.thickness);
            }
            if (palace.pondLeft < length) {
                return refuse(3, palace.pondLeft);
            }
            if (palace.freePlace(rack) < 0) {
                return refuse(4, rack);
            }
            return rack != kind ? refuse(5, rack) : NO_FAULT;
        }

        private int faultOfLaying(Palace palace, int block, int column, int course) {
            if (!palace.isSawn(block) || !Palace.isColumn(column) || !Palace.isCourse(course)) {
                return NO_SUCH_INDEX;
            }
            if (!palace.isInRack(block)) {
                return refuse(6, block);
            }
            int length = palace.lengths[block];
            if (column + length > COLUMNS) {
                return refuse(7, column + length - COLUMNS);
            }
            for (int i = 0; i < length; i++) {
                int other = palace.blockAt(column + i, course);
                if (other >= 0) {
                    return refuse(8, other);
                }
            }
            int supported = palace.supportedColumns(column, length, course);
            return supported * 2 < length ? refuse(9, supported) : NO_FAULT;
        }

        private int faultOfTaking(Palace palace, int block) {
            if (!palace.isSawn(block)) {
                return NO_SUCH_INDEX;
            }
            return palace.isInRack(block) ? NO_FAULT : refuse(6, block);
        }
    }

    /** The input, and the orders that were understood in it. */
    private static final class Orders {
        private final char[] input = new char[INPUT];
        private final char[] signs = new char[INPUT];
        private final int[] firsts = new int[INPUT];
        private final int[] seconds = new int[INPUT];
        private final int[] thirds = new int[INPUT];
        private int length = 0;
        private int cursor = 0;
        private int orders = 0;
        private int error = -1;

        boolean hasSpace() {
            return length >= 0 && length < INPUT;
        }

        void add(char c) {
            if (length >= 0 && length < INPUT) {
                input[length] = c;
                length++;
            }
        }

        void empty() {
            length = 0;
        }

        int inputLength() {
            return length;
        }

        int errorOffset() {
            return error;
        }

        int number() {
            return orders;
        }

        char signOf(int i) {
            return i >= 0 && i < INPUT ? signs[i] : ' ';
        }

        int firstOf(int i) {
            return i >= 0 && i < INPUT ? firsts[i] : 0;
        }

        int secondOf(int i) {
            return i >= 0 && i < INPUT ? seconds[i] : 0;
        }

        int thirdOf(int i) {
            return i >= 0 && i < INPUT ? thirds[i] : 0;
        }

        /** Only characters that continue a text are gone past, so the cursor stands at the error if there is one. */
        boolean understand() {
            cursor = 0;
            orders = 0;
            boolean isGood = readOrder();
            for (int i = 0; i < INPUT && isGood && cursor < length; i++) {
                isGood = goPast(';') && readOrder();
            }
            error = isGood ? -1 : cursor;
            return isGood;
        }

        private boolean readOrder() {
            if (goPast('s')) {
                return readSawing();
            }
            if (goPast('l')) {
                return readLaying();
            }
            if (goPast('h')) {
                return readNumber('h');
            }
            if (goPast('v')) {
                return readNumber('v');
            }
            return goPast('t') && readTemperature();
        }

        private boolean readSawing() {
            int kind = digits(1);
            int size = kind < 0 ? -1 : digits(1);
            if (size < 0 || !goPast('@')) {
                return false;
            }
            int rack = digits(1);
            return rack >= 0 && note('s', kind, size, rack);
        }

        private boolean readLaying() {
            int block = digits(2);
            if (block < 0 || !goPast('@')) {
                return false;
            }
            int column = digits(2);
            if (column < 0 || !goPast('/')) {
                return false;
            }
            int course = digits(1);
            return course >= 0 && note('l', block, column, course);
        }

        private boolean readNumber(char sign) {
            int value = digits(2);
            return value >= 0 && note(sign, value, 0, 0);
        }

        private boolean readTemperature() {
            int hour = digits(2);
            if (hour < 0 || !goPast('=')) {
                return false;
            }
            boolean isMinus = goPast('-');
            int value = digits(2);
            return value >= 0 && note('t', hour, isMinus ? -value : value, 0);
        }

        private boolean note(char sign, int first, int second, int third) {
            if (orders < 0 || orders >= INPUT) {
                return false;
            }
            signs[orders] = sign;
            firsts[orders] = first;
            seconds[orders] = second;
            thirds[orders] = third;
            orders++;
            return true;
        }

        private boolean goPast(char c) {
            if (cursor < 0 || cursor >= length || cursor >= INPUT || input[cursor] != c) {
                return false;
            }
            cursor++;
            return true;
        }

        /** The value of one digit or up to as many as are allowed; -1 if there is none. */
        private int digits(int most) {
            int value = -1;
            for (int i = 0; i < most; i++) {
                if (cursor < 0 || cursor >= length || cursor >= INPUT) {
                    return value;
                }
                char c = input[cursor];
                if (c < '0' || c > '9') {
                    return value;
                }
                value = Math.max(value, 0) * 10 + (c - '0');
                cursor++;
            }
            return value;
        }
    }

    /** What was before the latest changes; when it is full, the earliest gives way. */
    private static final class History {
        private final Palace[] ring = new Palace[CHANGES];
        private int next = 0;
        private int kept = 0;

        History() {
            for (int i = 0; i < CHANGES; i++) {
                ring[i] = new Palace();
            }
        }

        int number() {
            return kept;
        }

        void remember(Palace palace) {
            if (next < 0 || next >= CHANGES || ring[next] == null) {
                return;
            }
            ring[next].copyFrom(palace);
            next = (next + 1) % CHANGES;
            kept = Math.min(kept + 1, CHANGES);
        }

        void goBack(Palace palace) {
            next = (next + CHANGES - 1) % CHANGES;
            if (next >= 0 && next < CHANGES && ring[next] != null) {
                palace.copyFrom(ring[next]);
            }
            kept = Math.max(kept - 1, 0);
        }

        void forget() {
            kept = 0;
        }
    }

    /** Whether all is well, told from the blocks, the racks and the wall apart. */
    private static final class Audit {
        static boolean isAllWell(Palace palace, Loads loads) {
            int length = palace.pondLeft;
            for (int block = 0; block < BLOCKS && block < palace.sawn; block++) {
                length += palace.lengths[block];
                if (!isSomewhere(palace, block) || !isFirm(palace, loads, block)) {
                    return false;
                }
            }
            return length == POND_LENGTH;
        }

        private static boolean isSomewhere(Palace palace, int block) {
            int inRacks = countIn(palace.racks, block);
            int onWall = countIn(palace.wall, block);
            if (palace.isInRack(block)) {
                return inRacks == 1 && onWall == 0;
            }
            if (palace.isOnWall(block)) {
                return inRacks == 0 && onWall == palace.numberOf(block, 1);
            }
            return palace.isGone(block) && inRacks == 0 && onWall == 0;
        }

        private static boolean isFirm(Palace palace, Loads loads, int block) {
            if (!palace.isOnWall(block)) {
                return true;
            }
            return palace.isSupported(block) && loads.loadOf(block) == Loads.loadFromAbove(palace, block);
        }

        private static int countIn(int[] row, int block) {
            int number = 0;
            for (int i = 0; i < row.length; i++) {
                if (row[i] == block) {
                    number++;
                }
            }
            return number;
        }
    }

    /**
     * The bits of numbers, found by arithmetic. What is told is 0 or a normal positive number, far from the ends of the
     * range, so that halving, doubling and the mantissa's product are exact.
     */
    private static final class Bits {
        static int ofFloat(float value) {
            if (!(value > 0.0f)) {
                return 0;
            }
            float rest = value;
            int exponent = 127;
            for (int i = 0; i < 127 && rest >= 2.0f; i++) {
                rest = rest * 0.5f;
                exponent++;
            }
            for (int i = 0; i < 126 && rest < 1.0f; i++) {
                rest = rest * 2.0f;
                exponent--;
            }
            return (exponent << 23) | (int) ((rest - 1.0f) * 8388608.0f);
        }

        /** Of a mean of masses, none of which is below 1 on the wall. */
        static long ofDouble(double value) {
            if (!(value >= 1.0)) {
                return 0L;
            }
            double rest = value;
            long exponent = 1023L;
            for (int i = 0; i < 1023 && rest >= 2.0; i++) {
                rest = rest * 0.5;
                exponent++;
            }
            return (exponent << 52) | (long) ((rest - 1.0) * 4503599627370496.0);
        }
    }
}
