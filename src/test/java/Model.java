import java.util.ArrayDeque;
import java.util.ArrayList;
import java.util.Arrays;
import java.util.Deque;
import java.util.List;
import java.util.NoSuchElementException;
import java.util.regex.Matcher;
import java.util.regex.Pattern;

/** A second, slow telling of the document, for comparison; it shares no code with the program. */
final class Model {
    static final class Block {
        int number;
        int kind;
        int length;
        float mass;
        char sign = 'r';
        int column = -1;
        int course = -1;
        int joint;
        int place;

        Block copy() {
            Block b = new Block();
            b.number = number;
            b.kind = kind;
            b.length = length;
            b.mass = mass;
            b.sign = sign;
            b.column = column;
            b.course = course;
            b.joint = joint;
            b.place = place;
            return b;
        }

        boolean fills(int column, int course) {
            return sign == 'w' && this.course == course && column >= this.column && column < this.column + length;
        }

        void go(char how) {
            sign = how;
            column = -1;
            course = -1;
            joint = 0;
            place = -1;
        }

        float bears() {
            return mass * (kind == 0 ? 4.0f : 2.0f) * (1.0f + (0.1f * (float) joint));
        }
    }

    static final class State {
        int clock;
        int ice = 20;
        int visitors;
        int[] degrees = new int[24];
        List<Block> blocks = new ArrayList<>();

        State() {
            Arrays.fill(degrees, -5);
        }

        State copy() {
            State s = new State();
            s.clock = clock;
            s.ice = ice;
            s.visitors = visitors;
            s.degrees = degrees.clone();
            for (Block b : blocks) {
                s.blocks.add(b.copy());
            }
            return s;
        }

        int pond() {
            int left = 200;
            for (Block b : blocks) {
                left -= b.length;
            }
            return left;
        }

        List<Block> wall() {
            return withSign('w');
        }

        List<Block> withSign(char sign) {
            List<Block> list = new ArrayList<>();
            for (Block b : blocks) {
                if (b.sign == sign) {
                    list.add(b);
                }
            }
            return list;
        }

        List<Block> ofCourse(int course) {
            List<Block> list = new ArrayList<>();
            for (Block b : wall()) {
                if (b.course == course) {
                    list.add(b);
                }
            }
            return list;
        }

        Block filling(int column, int course) {
            for (Block b : blocks) {
                if (b.fills(column, course)) {
                    return b;
                }
            }
            return null;
        }

        int supported(int column, int length, int course) {
            int n = 0;
            for (int c = column; c < column + length; c++) {
                if (course == 0 || filling(c, course - 1) != null) {
                    n++;
                }
            }
            return n;
        }

        int supported(Block b) {
            return supported(b.column, b.length, b.course);
        }

        boolean isFirm(Block b) {
            return supported(b) >= b.length / 2.0;
        }

        float[] loads() {
            float[] loads = new float[blocks.size()];
            for (int course = 7; course >= 1; course--) {
                for (Block b : ofCourse(course)) {
                    for (Block under : ofCourse(course - 1)) {
                        int shared = 0;
                        for (int c = 0; c < 12; c++) {
                            if (b.fills(c, course) && under.fills(c, course - 1)) {
                                shared++;
                            }
                        }
                        if (shared > 0) {
                            loads[under.number] += (b.mass + loads[b.number]) * (float) shared / (float) supported(b);
                        }
                    }
                }
            }
            return loads;
        }

        int height(int column) {
            int h = 0;
            for (int course = 0; course < 8; course++) {
                if (filling(column, course) != null) {
                    h = course + 1;
                }
            }
            return h;
        }

        boolean shady(Block b, int hour) {
            if (hour >= 6 && hour <= 11) {
                for (int d = 1; b.column - d >= 0; d++) {
                    if (height(b.column - d) >= 1 + (b.course + d)) {
                        return true;
                    }
                }
                return false;
            }
            if (hour >= 12 && hour <= 17) {
                int last = b.column + b.length - 1;
                for (int d = 1; last + d <= 11; d++) {
                    if (height(last + d) >= 1 + (b.course + d)) {
                        return true;
                    }
                }
                return false;
            }
            return true;
        }

        void fall() {
            for (int course = 1; course <= 7; course++) {
                for (Block b : ofCourse(course)) {
                    if (!isFirm(b)) {
                        b.go('f');
                    }
                }
            }
        }

        Block overloaded() {
            float[] loads = loads();
            for (Block b : wall()) {
                if (loads[b.number] > b.bears()) {
                    return b;
                }
            }
            return null;
        }

        int hours(int n) {
            int before = wall().size();
            for (int i = 0; i < n; i++) {
                hour();
            }
            return before - wall().size();
        }

        void hour() {
            int hour = clock % 24;
            int t = degrees[hour];
            boolean[] shadows = new boolean[blocks.size()];
            for (Block b : wall()) {
                shadows[b.number] = shady(b, hour);
            }
            if (t < 0) {
                ice = Math.min(60, ice + (-t) / 5);
            }
            if (t > 0) {
                ice = Math.max(0, ice - t / 5);
            }
            for (Block b : wall()) {
                if (t < 0 && b.joint < 9) {
                    b.joint++;
                }
                if (t > 5 && b.joint > 0) {
                    b.joint--;
                }
            }
            for (Block b : wall()) {
                if (t > 0) {
                    b.mass = b.mass * (1.0f - ((shadows[b.number] ? 0.005f : 0.01f) * (float) t));
                }
            }
            for (Block b : wall()) {
                if (b.course < 2) {
                    b.mass -= 0.1f * (float) visitors;
                }
            }
            for (Block b : wall()) {
                if (b.mass < 1.0f) {
                    b.go('m');
                }
            }
            fall();
            for (Block b = overloaded(); b != null; b = overloaded()) {
                b.go('b');
                fall();
            }
            clock++;
        }
    }

    private static final Pattern ORDER = Pattern.compile(
            "s([0-9])([0-9])@([0-9])|l([0-9]{1,2})@([0-9]{1,2})/([0-9])|h([0-9]{1,2})|v([0-9]{1,2})"
            + "|t([0-9]{1,2})=(-?[0-9]{1,2})");
    private static final Pattern TEXT = Pattern.compile("(" + ORDER + ")(;(" + ORDER + "))*");

    private State now = new State();
    private State saved;
    private final Deque<State> history = new ArrayDeque<>();
    private String input = "";
    private int error = -1;
    private int reason;
    private int detail;

    private void change() {
        history.addLast(now.copy());
        if (history.size() > 8) {
            history.removeFirst();
        }
    }

    private UnsupportedOperationException refuse(int why, int which) {
        reason = why;
        detail = which;
        return new UnsupportedOperationException();
    }

    private static void index(boolean isFine) {
        if (!isFine) {
            throw new IndexOutOfBoundsException();
        }
    }

    private static void argument(boolean isFine) {
        if (!isFine) {
            throw new IllegalArgumentException();
        }
    }

    private Block sawn(int block) {
        index(block >= 0 && block < now.blocks.size());
        return now.blocks.get(block);
    }

    private Block onWall(int block) {
        Block b = sawn(block);
        if (b.sign != 'w') {
            throw new NoSuchElementException();
        }
        return b;
    }

    int heat(int hour, int temperature) {
        index(hour >= 0 && hour <= 23);
        argument(temperature >= -30 && temperature <= 20);
        change();
        int old = now.degrees[hour];
        now.degrees[hour] = temperature;
        return old;
    }

    int visit(int visitors) {
        argument(visitors >= 0 && visitors <= 50);
        change();
        int old = now.visitors;
        now.visitors = visitors;
        return old;
    }

    int saw(int kind, int length, int rack) {
        index(rack == 0 || rack == 1);
        argument((kind == 0 || kind == 1) && length >= 1 && length <= 6);
        if (now.blocks.size() == 40) {
            throw refuse(1, 40);
        }
        if (now.ice < 10) {
            throw refuse(2, now.ice);
        }
        if (now.pond() < length) {
            throw refuse(3, now.pond());
        }
        List<Integer> free = new ArrayList<>(List.of(0, 1, 2, 3, 4));
        for (Block b : now.withSign('r')) {
            if (b.kind == rack) {
                free.remove((Integer) b.place);
            }
        }
        if (free.isEmpty()) {
            throw refuse(4, rack);
        }
        if (rack != kind) {
            throw refuse(5, rack);
        }
        change();
        Block b = new Block();
        b.number = now.blocks.size();
        b.kind = kind;
        b.length = length;
        b.mass = (float) length * (float) now.ice * (kind == 0 ? 1.0f : 0.5f);
        b.place = free.get(0);
        now.blocks.add(b);
        return b.number;
    }

    int lay(int block, int column, int course) {
        Block b = sawn(block);
        index(column >= 0 && column < 12 && course >= 0 && course < 8);
        if (b.sign != 'r') {
            throw refuse(6, block);
        }
        if (column + b.length > 12) {
            throw refuse(7, column + b.length - 12);
        }
        for (int c = column; c < column + b.length; c++) {
            Block other = now.filling(c, course);
            if (other != null) {
                throw refuse(8, other.number);
            }
        }
        int supported = now.supported(column, b.length, course);
        if (supported < b.length / 2.0) {
            throw refuse(9, supported);
        }
        change();
        b.sign = 'w';
        b.column = column;
        b.course = course;
        b.joint = 0;
        b.place = -1;
        return supported;
    }

    int take(int block) {
        Block b = sawn(block);
        if (b.sign != 'r') {
            throw refuse(6, block);
        }
        change();
        b.go('t');
        return b.length;
    }

    int pass(int hours) {
        argument(hours >= 1 && hours <= 48);
        change();
        return now.hours(hours);
    }

    int blockOf(int block, int what) {
        Block b = sawn(block);
        argument(what >= 0 && what <= 7);
        int[] numbers = {b.kind, b.length, b.sign == 'r' ? 0 : b.sign == 'w' ? 1 : 2, b.column, b.course, b.joint,
            b.place, Math.max(0, "tmbf".indexOf(b.sign) + 1)};
        return numbers[what];
    }

    float mass(int block) {
        Block b = sawn(block);
        if (b.sign != 'r' && b.sign != 'w') {
            throw new NoSuchElementException();
        }
        return b.mass;
    }

    int load(int block, boolean isBorne) {
        Block b = onWall(block);
        return Float.floatToIntBits(isBorne ? b.bears() : now.loads()[block]);
    }

    int loadAgain(int block) {
        return load(block, false);
    }

    int at(int column, int course) {
        index(column >= 0 && column < 12 && course >= 0 && course < 8);
        Block b = now.filling(column, course);
        return b == null ? -1 : b.number;
    }

    int height(int column) {
        index(column >= 0 && column < 12);
        return now.height(column);
    }

    boolean isShady(int block, int hour) {
        sawn(block);
        index(hour >= 0 && hour < 24);
        return now.shady(onWall(block), hour);
    }

    char sign(int block) {
        return sawn(block).sign;
    }

    int rooms(int course, int what) {
        index(course >= 0 && course < 8);
        argument(what >= 0 && what <= 2);
        StringBuilder row = new StringBuilder();
        for (int c = 0; c < 12; c++) {
            boolean isFilled = now.filling(c, course) != null;
            boolean isRoofed = now.filling(c, course + 1) != null;
            row.append(isFilled ? '#' : isRoofed ? '.' : ' ');
        }
        Matcher m = Pattern.compile("(?<=#)\\.+(?=#)").matcher(row);
        int number = 0;
        int widest = 0;
        int first = -1;
        while (m.find()) {
            number++;
            if (m.end() - m.start() > widest) {
                widest = m.end() - m.start();
                first = m.start();
            }
        }
        return what == 0 ? number : what == 1 ? widest : first;
    }

    int inRack(int rack, int place) {
        index((rack == 0 || rack == 1) && place >= 0 && place < 5);
        for (Block b : now.withSign('r')) {
            if (b.kind == rack && b.place == place) {
                return b.number;
            }
        }
        return -1;
    }

    int worst() {
        float[] loads = now.loads();
        Block worst = null;
        for (Block b : now.wall()) {
            if (worst == null || loads[b.number] / b.bears() > loads[worst.number] / worst.bears()) {
                worst = b;
            }
        }
        if (worst == null) {
            throw new NoSuchElementException();
        }
        return worst.number;
    }

    int goneIn() {
        State s = now.copy();
        for (int n = 1; n <= 96; n++) {
            if (s.hours(1) > 0) {
                return n;
            }
        }
        throw new NoSuchElementException();
    }

    int massBits(int block, int hours) {
        sawn(block);
        argument(hours >= 0 && hours <= 48);
        State s = now.copy();
        s.hours(hours);
        Block b = s.blocks.get(block);
        return b.sign == 'r' || b.sign == 'w' ? Float.floatToIntBits(b.mass) : -1;
    }

    int safe() {
        for (int v = 50; v >= 0; v--) {
            State s = now.copy();
            s.visitors = v;
            int gone = 0;
            boolean isNoonOver = false;
            while (!isNoonOver) {
                isNoonOver = s.clock % 24 == 12;
                gone += s.hours(1);
            }
            if (gone == 0) {
                return v;
            }
        }
        throw new NoSuchElementException();
    }

    int left(int hours) {
        argument(hours >= 0 && hours <= 48);
        State s = now.copy();
        s.hours(hours);
        return s.wall().size();
    }

    int append(char c) {
        if (input.length() == 60) {
            throw new IllegalStateException();
        }
        input += c;
        return input.length();
    }

    int read() {
        String text = input;
        input = "";
        error = errorOf(text);
        argument(error < 0);
        State before = now.copy();
        List<State> kept = new ArrayList<>(history);
        String[] orders = text.split(";");
        boolean isDone = false;
        try {
            for (String order : orders) {
                carryOut(order);
            }
            isDone = true;
        } catch (IndexOutOfBoundsException e) {
            throw new IllegalArgumentException();
        } finally {
            history.clear();
            history.addAll(kept);
            if (!isDone) {
                now = before;
            }
        }
        history.addLast(before);
        if (history.size() > 8) {
            history.removeFirst();
        }
        return orders.length;
    }

    private void carryOut(String order) {
        Matcher m = ORDER.matcher(order);
        if (!m.matches()) {
            throw new AssertionError(order);
        }
        switch (order.charAt(0)) {
            case 's' -> saw(of(m, 1), of(m, 2), of(m, 3));
            case 'l' -> lay(of(m, 4), of(m, 5), of(m, 6));
            case 'h' -> pass(of(m, 7));
            case 'v' -> visit(of(m, 8));
            default -> heat(of(m, 9), of(m, 10));
        }
    }

    private static int of(Matcher m, int group) {
        return Integer.parseInt(m.group(group));
    }

    /** The length of the longest beginning that some text begins with, unless the whole is a text. */
    static int errorOf(String text) {
        if (TEXT.matcher(text).matches()) {
            return -1;
        }
        int n = 0;
        while (n < text.length() && canBegin(text.substring(0, n + 1))) {
            n++;
        }
        return n;
    }

    private static boolean canBegin(String start) {
        Matcher m = TEXT.matcher(start);
        return m.matches() || m.hitEnd();
    }

    int errorPosition() {
        return error;
    }

    int refusal(boolean isDetail) {
        if (reason == 0) {
            throw new NoSuchElementException();
        }
        return isDetail ? detail : reason;
    }

    int account(int what) {
        argument(what >= 0 && what <= 14);
        int filled = 0;
        for (Block b : now.wall()) {
            filled += b.length;
        }
        int[] numbers = {now.clock, now.ice, now.pond(), now.visitors, now.blocks.size(), now.withSign('r').size(),
            now.wall().size(), now.withSign('t').size(), now.withSign('m').size(), now.withSign('b').size(),
            now.withSign('f').size(), filled, now.degrees[now.clock % 24], input.length(), history.size()};
        return numbers[what];
    }

    boolean isWell() {
        return true;
    }

    long meanBits() {
        double sum = 0.0;
        for (Block b : now.wall()) {
            sum += b.mass;
        }
        if (now.wall().isEmpty()) {
            throw new ArithmeticException();
        }
        return Double.doubleToLongBits(sum / (double) now.wall().size());
    }

    int undo() {
        if (history.isEmpty()) {
            throw new IllegalStateException();
        }
        now = history.removeLast();
        return history.size();
    }

    int save() {
        saved = now.copy();
        return now.blocks.size();
    }

    int restore() {
        if (saved == null) {
            throw new IllegalStateException();
        }
        now = saved.copy();
        history.clear();
        return now.blocks.size();
    }
}
