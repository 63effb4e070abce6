import java.util.Arrays;

/** What stays as it is: after exceptions, after mere questions, after undo and restore; and the ends of undo. */
public final class StateEdgesTest {
    private static final Class<IllegalStateException> STATE = IllegalStateException.class;
    private static final Class<UnsupportedOperationException> REFUSED = UnsupportedOperationException.class;

    interface Step {
        Object on(SawnIce x);
    }

    public static void main(String[] args) {
        newObject();
        exceptionsLeaveTheState();
        refusalsLeaveTheState();
        readsLeaveTheState();
        questionsLeaveTheState();
        changes();
        sameAsBefore();
        latestEight();
        undoOfEach();
        undoStays();
        save();
        restore();
        restoreForgets();
        neitherUndoneNorSaved();
        Check.end("StateEdgesTest");
    }

    private static final Step[] NO_STEPS = {};

    /** Blocks of all signs, a snapshot, eight changes, half a text, an error position and a reason. */
    private static SawnIce rich(Step... steps) {
        SawnIce x = new SawnIce();
        x.saw(0, 1, 0);
        x.take(x.saw(1, 2, 1));
        Palaces.put(x, 0, 4, 0, 0);
        Palaces.put(x, 1, 1, 11, 0);
        Palaces.put(x, 0, 2, 10, 1);
        x.pass(1);
        x.save();
        Palaces.put(x, 0, 4, 5, 0);
        Palaces.put(x, 0, 6, 2, 1);
        x.saw(1, 3, 1);
        Check.outcome(() -> Palaces.read(x, "v1;w"));
        Check.outcome(() -> x.lay(0, 0, 0));
        x.heat(7, 13);
        x.visit(4);
        x.pass(5);
        x.heat(6, 11);
        Palaces.type(x, "v2;h");
        for (Step step : steps) {
            Check.outcome(() -> step.on(x));
        }
        return x;
    }

    private static String temperatures(SawnIce x) {
        StringBuilder s = new StringBuilder();
        for (int hour = 0; hour < 24; hour++) {
            s.append(x.heat(hour, 0)).append(' ');
        }
        return s.toString();
    }

    private static String now(Step... steps) {
        SawnIce x = rich(steps);
        return Palaces.all(x) + temperatures(x);
    }

    /** All that changes can change, now, behind each undo and in the snapshot. */
    private static String whole(Step... steps) {
        StringBuilder s = new StringBuilder();
        int changes = rich(steps).account(14);
        for (int undone = 0; undone <= changes; undone++) {
            SawnIce x = rich(steps);
            for (int i = 0; i < undone; i++) {
                x.undo();
            }
            s.append(x.account(14)).append(": ").append(Palaces.all(x)).append(temperatures(x)).append('\n');
        }
        SawnIce x = rich(steps);
        s.append(Check.outcome(x::restore)).append(": ").append(Palaces.all(x)).append(temperatures(x)).append('\n');
        return s.toString();
    }

    private static String input(Step... steps) {
        SawnIce x = rich(steps);
        int length = x.account(13);
        x.append('3');
        Object orders = Check.outcome(x::read);
        return length + ", " + orders + ", " + x.errorPosition() + ", " + x.account(0) + ", " + x.account(3);
    }

    private static String kept(Step... steps) {
        SawnIce x = rich(steps);
        return x.errorPosition() + ", " + x.refusal(false) + ", " + x.refusal(true);
    }

    private static void newObject() {
        Doc.promise(1, "Creates an empty wall, empty racks, and a pond with 200 of length left.");
        SawnIce x = new SawnIce();
        for (int course = 0; course <= 7; course++) {
            for (int column = 0; column <= 11; column++) {
                Check.is("empty wall", x.at(column, course), -1);
            }
        }
        for (int place = 0; place <= 4; place++) {
            Check.is("empty racks", x.inRack(0, place) + " " + x.inRack(1, place), "-1 -1");
        }
        int[] due = {0, 20, 200, 0, 0, 0, 0, 0, 0, 0, 0, 0, -5, 0, 0};
        for (int what = 0; what <= 14; what++) {
            Check.is("account " + what, x.account(what), due[what]);
        }
        Check.is("no error", x.errorPosition(), -1);
        Check.is("all is well", x.isWell(), true);
        Check.is("two objects share nothing", Palaces.put(x, 0, 6, 0, 0) + new SawnIce().account(4), 0);
    }

    private static void exceptionsLeaveTheState() {
        Doc.terms("A method that throws an exception leaves the state unchanged unless its documentation says otherwise.");
        Step[] steps = {x -> x.heat(24, 0), x -> x.heat(-1, 0), x -> x.heat(6, 21), x -> x.heat(6, -31),
            x -> x.visit(51), x -> x.visit(-1), x -> x.saw(0, 1, 2), x -> x.saw(2, 1, 0), x -> x.saw(0, 7, 0),
            x -> x.saw(0, 0, 0), x -> x.lay(9, 0, 0), x -> x.lay(0, 12, 0), x -> x.lay(0, 0, 8), x -> x.take(9),
            x -> x.take(-1), x -> x.pass(0), x -> x.pass(49), x -> x.blockOf(9, 0), x -> x.blockOf(0, 8),
            x -> x.mass(1), x -> x.mass(9), x -> x.load(0, true), x -> x.load(1, false), x -> x.load(9, true),
            x -> x.loadAgain(0), x -> x.loadAgain(9), x -> x.at(12, 0), x -> x.height(12), x -> x.isShady(0, 0),
            x -> x.isShady(2, 24), x -> x.sign(9), x -> x.rooms(8, 0), x -> x.rooms(0, 3), x -> x.inRack(2, 0),
            x -> x.inRack(0, 5), x -> x.massBits(9, 0), x -> x.massBits(0, 49), x -> x.left(49), x -> x.left(-1),
            x -> x.account(15)};
        String whole = whole(NO_STEPS);
        for (int i = 0; i < steps.length; i++) {
            int one = i;
            Object thrown = Check.outcome(() -> steps[one].on(rich()));
            Check.is("throws: step " + i, thrown.toString().startsWith("java."), true);
            Check.is("state behind the step " + i, whole(steps[i]), whole);
            Check.is("input behind the step " + i, input(steps[i]), input());
            Check.is("error position and reason behind the step " + i, kept(steps[i]), kept());
        }
    }

    private static void refusalsLeaveTheState() {
        Doc.terms("A method that throws an exception leaves the state unchanged unless its documentation says otherwise.");
        Step[] steps = {x -> x.saw(1, 1, 0), x -> x.saw(0, 1, 1), x -> x.lay(1, 0, 0), x -> x.lay(2, 0, 0),
            x -> x.lay(7, 10, 0), x -> x.lay(0, 8, 0), x -> x.lay(0, 9, 7), x -> x.take(1), x -> x.take(2)};
        String[] due = {"5, 0", "5, 1", "6, 1", "6, 2", "7, 1", "8, 5", "9, 0", "6, 1", "6, 2"};
        String whole = whole(NO_STEPS);
        for (int i = 0; i < steps.length; i++) {
            int one = i;
            Check.fails("refused: step " + i, REFUSED, () -> steps[one].on(rich()));
            Check.is("state behind the refusal " + i, whole(steps[i]), whole);
            Check.is("input behind the refusal " + i, input(steps[i]), input());
            Check.is("error position and reason behind the refusal " + i, kept(steps[i]), "3, " + due[i]);
        }
    }

    private static void readsLeaveTheState() {
        Doc.terms("A method that throws an exception leaves the state unchanged unless its documentation says otherwise.");
        String[] ends = {"", "x", "99", "9;v51", "9;t6=-7;s01@0;l8@4/0;s11@0", "9;t6=-7;s01@0;l8@4/0;h48;v77"};
        String[] due = {"4, 8, 2", "4, 8, 2", "-1, 8, 2", "-1, 8, 2", "-1, 5, 0", "-1, 8, 2"};
        String whole = whole(NO_STEPS);
        for (int i = 0; i < ends.length; i++) {
            String end = ends[i];
            Step step = x -> Palaces.read(x, end);
            Check.is("throws behind " + end, Check.outcome(() -> step.on(rich())).toString().startsWith("java."), true);
            Check.is("state behind " + end, whole(step), whole);
            Check.is("the input is empty behind " + end, rich(step).account(13), 0);
            Check.is("error position and reason behind " + end, kept(step), due[i]);
        }
        SawnIce full = new SawnIce();
        for (int i = 0; i < 30; i++) {
            Palaces.type(full, i == 0 ? "v1" : ";v");
        }
        Check.fails("the input is full", STATE, () -> full.append('2'));
        Check.fails("still", STATE, () -> full.append(';'));
        Check.is("sixty", full.account(13), 60);
    }

    private static void questionsLeaveTheState() {
        Doc.terms("The changes are the successful calls of heat, visit, saw, lay, take, pass and read");
        Step[] steps = {x -> x.blockOf(2, 5), x -> x.mass(0), x -> x.load(2, false), x -> x.load(2, true),
            x -> x.loadAgain(2), x -> x.at(0, 0), x -> x.height(0), x -> x.isShady(2, 7), x -> x.sign(1),
            x -> x.rooms(0, 0), x -> x.inRack(0, 0), x -> x.worst(), x -> x.goneIn(), x -> x.massBits(2, 48),
            x -> x.safe(), x -> x.left(48), x -> x.errorPosition(), x -> x.refusal(true), x -> x.account(14),
            x -> x.isWell(), x -> x.meanBits()};
        String whole = whole(NO_STEPS);
        for (int i = 0; i < steps.length; i++) {
            int one = i;
            Object answer = Check.outcome(() -> steps[one].on(rich()));
            Check.is("answers: question " + i + ", " + answer, answer.toString().startsWith("java."), false);
            Check.is("state behind the question " + i, whole(steps[i]), whole);
            Check.is("input behind the question " + i, input(steps[i]), input());
            Check.is("error position and reason behind the question " + i, kept(steps[i]), kept());
        }
    }

    private static void changes() {
        Doc.terms("The changes are the successful calls of heat, visit, saw, lay, take, pass and read, also if nothing is"
                + " different then.");
        Step[] steps = {x -> x.heat(0, 1), x -> x.visit(1), x -> x.saw(0, 1, 0), x -> x.saw(1, 1, 1),
            x -> x.lay(0, 0, 0), x -> x.take(1), x -> x.pass(1), x -> Palaces.read(x, "v1;v2;v3")};
        SawnIce x = new SawnIce();
        for (int i = 0; i < steps.length; i++) {
            Check.is("changes before", x.account(14), i);
            steps[i].on(x);
            Check.is("changes behind the step " + i, x.account(14), i + 1);
        }
    }

    private static void sameAsBefore() {
        Doc.terms("also if nothing is different then.");
        SawnIce x = new SawnIce();
        x.visit(3);
        x.heat(5, -5);
        Check.is("the same temperature", x.account(14), 2);
        x.visit(3);
        Check.is("the same visitors", x.account(14), 3);
        Palaces.read(x, "v3;t5=-5");
        Check.is("a text that changes nothing", x.account(14), 4);
        for (int left = 3; left >= 1; left--) {
            Check.is("undo takes one each", x.undo(), left);
            Check.is("nothing is different", x.account(3), 3);
        }
        Check.is("the first change", x.undo(), 0);
        Check.is("is undone", x.account(3), 0);
    }

    private static void latestEight() {
        Doc.terms("The latest 8 can be undone; restore forgets all.");
        Doc.promise(30, "Returns the number of changes that can still be undone.");
        for (int changes = 0; changes <= 20; changes++) {
            SawnIce x = new SawnIce();
            for (int i = 1; i <= changes; i++) {
                x.visit(i);
                Check.is("can be undone", x.account(14), Math.min(i, 8));
            }
            int kept = Math.min(changes, 8);
            for (int left = kept - 1; left >= 0; left--) {
                Check.is("still", x.undo(), left);
                Check.is("visitors", x.account(3), changes - kept + left);
            }
            Doc.promise(30, "Throws `IllegalStateException` if no change can be undone");
            Check.fails("no more of " + changes, STATE, () -> x.undo());
            Check.is("visitors stay", x.account(3), changes - kept);
            Check.is("none can be", x.account(14), 0);
            x.visit(50);
            Check.is("a new one can", x.undo(), 0);
        }
        SawnIce x = new SawnIce();
        for (int i = 1; i <= 8; i++) {
            x.visit(i);
        }
        for (int i = 0; i < 3; i++) {
            x.undo();
        }
        for (int i = 11; i <= 14; i++) {
            x.visit(i);
        }
        Check.is("undone and changed again", x.account(14), 8);
        int[] due = {13, 12, 11, 5, 4, 3, 2, 1};
        for (int i = 0; i < 8; i++) {
            Check.is("left", x.undo(), 7 - i);
            Check.is("back", x.account(3), due[i]);
        }
        Check.fails("the earliest was forgotten", STATE, () -> x.undo());
    }

    private static void undoOfEach() {
        Doc.promise(30, "Undoes the latest change.");
        Step[] steps = {x -> x.heat(6, -30), x -> x.visit(50), x -> x.saw(0, 6, 0), x -> x.saw(1, 1, 1),
            x -> x.lay(0, 9, 0), x -> x.lay(7, 2, 2), x -> x.take(0), x -> x.take(7), x -> x.pass(1), x -> x.pass(48),
            x -> Palaces.read(x, "1;t6=-9;s01@0;l8@4/0;v50;h48")};
        String due = now(NO_STEPS);
        for (int i = 0; i < steps.length; i++) {
            int one = i;
            Object answer = Check.outcome(() -> steps[one].on(rich()));
            Check.is("goes well: " + i + ", " + answer, answer.toString().startsWith("java."), false);
            Check.is("changes much: " + i, now(steps[i]).equals(due), false);
            Check.is("undone: " + i, now(steps[i], x -> x.undo()), due);
            Check.is("seven are left: " + i, rich(steps[i], x -> x.undo()).account(14), 7);
        }
    }

    private static void undoStays() {
        Doc.promise(30, "Throws `IllegalStateException` if no change can be undone");
        SawnIce x = new SawnIce();
        Check.fails("a new object", STATE, () -> x.undo());
        x.append('v');
        x.save();
        Check.fails("neither append nor save is a change", STATE, () -> x.undo());
        Check.fails("nor what is out of range", IllegalArgumentException.class, () -> x.visit(51));
        Check.fails("still none", STATE, () -> x.undo());
        Check.is("the input stays", x.account(13), 1);
    }

    private static void save() {
        Doc.promise(31, "Returns the blocks that were sawn.");
        SawnIce x = new SawnIce();
        Check.is("none", x.save(), 0);
        for (int i = 0; i < 40; i++) {
            x.take(x.saw(0, 1, 0));
            Check.is("sawn", x.save(), i + 1);
        }
        Check.is("restored", x.restore(), 40);
        Doc.promise(31, "Takes a snapshot of what changes can change, in place of an earlier one.");
        SawnIce y = new SawnIce();
        y.visit(1);
        y.save();
        y.visit(2);
        y.save();
        y.visit(3);
        Check.is("changes stay", y.account(14), 3);
        y.undo();
        y.undo();
        y.undo();
        Check.is("undone behind the snapshot", y.account(3), 0);
        y.restore();
        Check.is("the later one", y.account(3), 2);
    }

    private static void restore() {
        Doc.promise(32, "Throws `IllegalStateException` if there is no snapshot");
        SawnIce x = new SawnIce();
        x.visit(4);
        Check.fails("none", STATE, () -> x.restore());
        Check.is("unchanged", x.account(3) + " " + x.account(14), "4 1");
        Doc.promise(32, "Makes everything that changes can change as it is in the snapshot, which stays.");
        Step[] wild = {y -> y.save(), y -> y.heat(6, 20), y -> y.heat(23, 20), y -> y.visit(50), y -> y.take(0),
            y -> y.saw(0, 5, 0), y -> y.saw(1, 1, 1), y -> y.lay(8, 4, 2), y -> y.pass(48)};
        Step[] steps = Arrays.copyOf(wild, wild.length + 3);
        steps[wild.length] = y -> y.restore();
        steps[wild.length + 1] = y -> y.pass(48);
        steps[wild.length + 2] = y -> y.restore();
        Check.is("as it was", now(Arrays.copyOf(steps, wild.length + 1)), now());
        Check.is("as it was again", now(steps), now());
        Check.is("blocks that were sawn", rich(wild).account(4) + " " + rich(wild).restore(), "10 8");
    }

    private static void restoreForgets() {
        Doc.terms("restore forgets all.");
        SawnIce x = new SawnIce();
        x.save();
        for (int i = 1; i <= 9; i++) {
            x.visit(i);
        }
        Check.is("restored", x.restore(), 0);
        Check.is("none can be undone", x.account(14), 0);
        Check.fails("none", STATE, () -> x.undo());
        x.visit(1);
        Check.is("one can", x.account(14), 1);
        Check.is("it is undone", x.undo(), 0);
        Check.fails("but no more", STATE, () -> x.undo());
        Check.is("restored twice", x.restore(), 0);
        Check.fails("restore itself cannot be undone", STATE, () -> x.undo());
    }

    private static void neitherUndoneNorSaved() {
        Doc.terms("The input, the error position and the reason are neither undone nor saved, and stay.");
        Step[][] ways = {{x -> x.undo()}, {x -> x.save()}, {x -> x.restore()}, {x -> x.save(), x -> x.restore()},
            {x -> x.undo(), x -> x.undo(), x -> x.undo(), x -> x.undo()}};
        for (int i = 0; i < ways.length; i++) {
            Check.is("error position and reason, way " + i, kept(ways[i]), kept());
            Check.is("characters in the input, way " + i, rich(ways[i]).account(13), 4);
            SawnIce x = rich(ways[i]);
            int clock = x.account(0);
            x.append('3');
            Check.is("the text in the input, way " + i, x.read(), 2);
            Check.is("its visitors and hours, way " + i, x.account(3) + " " + (x.account(0) - clock), "2 3");
        }
        // A later input, error position and reason are not made undone by going back to an earlier state either.
        SawnIce x = new SawnIce();
        x.save();
        x.visit(1);
        x.append('q');
        Check.outcome(x::read);
        Check.outcome(() -> x.saw(0, 1, 1));
        x.append('v');
        x.undo();
        x.restore();
        Check.is("all three stay", x.errorPosition() + " " + Palaces.refusal(x) + " " + x.account(13), "0 5: 1 1");
    }
}
