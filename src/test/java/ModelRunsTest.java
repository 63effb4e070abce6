/** Long runs of calls, the same on SawnIce and on the model; every answer must be alike. */
public final class ModelRunsTest {
    private static final int RUNS = 600;
    private static final int CALLS = 512;

    private long seed;
    private SawnIce ice;
    private Model model;
    private int style;
    private int calls = 0;
    private final StringBuilder told = new StringBuilder();
    private static final int[] seen = new int[5];

    interface Call {
        Object answer();
    }

    public static void main(String[] args) {
        for (int run = 1; run <= RUNS; run++) {
            ModelRunsTest test = new ModelRunsTest();
            test.seed = run * 7919L;
            test.ice = new SawnIce();
            test.model = new Model();
            test.style = run % 5;
            if (!test.isAlike(run)) {
                System.exit(1);
            }
        }
        System.out.println("ModelRunsTest: " + RUNS + " runs alike; taken, melted, broken, fallen, noon unsafe: "
                + java.util.Arrays.toString(seen));
        for (int n : seen) {
            if (n == 0) {
                System.out.println("ModelRunsTest: the runs miss a way to go");
                System.exit(1);
            }
        }
    }

    private int any(int bound) {
        seed = seed * 6364136223846793005L + 1442695040888963407L;
        return (int) ((seed >>> 33) % bound);
    }

    private int edge(int from, int to) {
        return any(25) == 0 ? (any(2) == 0 ? from - 1 : to + 1) : from + any(to - from + 1);
    }

    private boolean isAlike(int run) {
        while (calls < CALLS) {
            if (!next()) {
                System.out.println("run " + run + ", call " + calls + ": " + told);
                return false;
            }
        }
        for (int cause = 0; cause < 4; cause++) {
            seen[cause] += model.account(7 + cause);
        }
        return true;
    }

    private boolean same(String call, Call one, Call other) {
        if (calls == CALLS) {
            return true;
        }
        calls++;
        Object got = answerOf(one);
        Object due = answerOf(other);
        told.append(call).append(" -> ").append(got).append("; ");
        if (call.startsWith("safe") && due.equals("java.util.NoSuchElementException")) {
            seen[4]++;
        }
        if (got.equals(due)) {
            return true;
        }
        told.append("due is ").append(due);
        return false;
    }

    private static Object answerOf(Call call) {
        try {
            return call.answer();
        } catch (RuntimeException e) {
            return e.getClass().getName();
        }
    }

    private boolean next() {
        int block = any(30) == 0 ? edge(-1, 41) : any(Math.max(1, model.account(4) + (any(20) == 0 ? 1 : 0)));
        int kind = any(100);
        if (kind < 14) {
            return sawOne();
        }
        if (kind < 40) {
            return layOne();
        }
        if (kind < 43) {
            int h = edge(0, 23);
            int t = style == 0 ? edge(-30, -1) : style == 1 ? edge(1, 20) : edge(-30, 20);
            return same("heat(" + h + ", " + t + ")", () -> ice.heat(h, t), () -> model.heat(h, t));
        }
        if (kind < 45) {
            int v = any(3) == 0 ? edge(0, 50) : any(6);
            return same("visit(" + v + ")", () -> ice.visit(v), () -> model.visit(v));
        }
        if (kind < 46) {
            return same("take(" + block + ")", () -> ice.take(block), () -> model.take(block));
        }
        if (kind < 50) {
            int h = any(8) == 0 ? edge(1, 48) : any(style == 2 ? 20 : 4);
            return same("pass(" + h + ")", () -> ice.pass(h), () -> model.pass(h));
        }
        if (kind < 60) {
            return text();
        }
        if (kind < 64) {
            return latest();
        }
        return kind < 80 ? askBlock(block) : kind < 92 ? askWall() : askAhead(block);
    }

    private boolean sawOne() {
        int k = edge(0, 1);
        int l = any(3) == 0 ? edge(1, 6) : 1 + any(style == 4 ? 4 : 6);
        int r = any(12) == 0 ? edge(0, 1) : k;
        return same("saw(" + k + ", " + l + ", " + r + ")", () -> ice.saw(k, l, r), () -> model.saw(k, l, r));
    }

    private boolean layOne() {
        int place = any(10);
        int racked = model.inRack(place / 5, place % 5);
        int b = racked < 0 || any(30) == 0 ? any(Math.max(1, model.account(4))) : racked;
        int c = edge(0, 11);
        int h = c >= 0 && c < 12 && any(10) != 0 ? model.height(c) : edge(0, 7);
        if (any(4) == 0) {
            h = any(8);
        }
        int course = h;
        return same("lay(" + b + ", " + c + ", " + course + ")",
                () -> ice.lay(b, c, course), () -> model.lay(b, c, course));
    }

    private boolean text() {
        StringBuilder text = new StringBuilder();
        int orders = any(5) == 0 ? any(12) : 1 + any(3);
        for (int i = 0; i < orders; i++) {
            text.append(i == 0 ? "" : ";").append(order());
        }
        if (any(3) == 0 && text.length() > 0) {
            int at = any(text.length());
            char c = any(8) == 0 ? (char) any(256) : "slhvt;@/=-0123456789".charAt(any(20));
            if (any(2) == 0) {
                text.setCharAt(at, c);
            } else {
                text.insert(at, c);
            }
        }
        if (any(6) == 0 && text.length() > 0) {
            text.setLength(any(text.length()));
        }
        for (int i = 0; i < text.length(); i++) {
            char c = text.charAt(i);
            if (!same("append('" + c + "')", () -> ice.append(c), () -> model.append(c))) {
                return false;
            }
        }
        return (any(12) == 0 || same("read()", () -> ice.read(), () -> model.read()))
                && same("errorPosition()", () -> ice.errorPosition(), () -> model.errorPosition());
    }

    private String order() {
        int place = any(10);
        int racked = Math.max(model.inRack(place / 5, place % 5), 0);
        int column = any(12);
        int k = any(2);
        switch (any(9)) {
            case 0:
            case 1:
                return "s" + k + (1 + any(6)) + "@" + (any(6) == 0 ? any(10) : k);
            case 2:
            case 3:
            case 4:
                return "l" + (any(9) == 0 ? any(100) : racked) + "@" + column + "/" + model.height(column);
            case 5:
                return "h" + (any(4) == 0 ? any(100) : 1 + any(3));
            case 6:
                return "v" + (any(6) == 0 ? any(100) : any(10));
            case 7:
                return "t" + (any(9) == 0 ? any(100) : "0" + any(10)) + "=" + (any(2) == 0 ? "-" : "") + any(21);
            default:
                return "l0" + any(10) + "@" + (any(2) == 0 ? "0" : "") + any(10) + "/" + any(10);
        }
    }

    private boolean latest() {
        switch (any(8)) {
            case 0:
            case 1:
            case 2:
                return same("undo()", () -> ice.undo(), () -> model.undo());
            case 3:
            case 4:
                return same("save()", () -> ice.save(), () -> model.save());
            case 5:
                return any(3) != 0 || same("restore()", () -> ice.restore(), () -> model.restore());
            default:
                boolean isDetail = any(2) == 0;
                return same("refusal(" + isDetail + ")", () -> ice.refusal(isDetail), () -> model.refusal(isDetail));
        }
    }

    private boolean askBlock(int b) {
        int n = edge(0, 7);
        int h = edge(0, 23);
        boolean is = any(2) == 0;
        switch (any(7)) {
            case 0:
                return same("blockOf(" + b + ", " + n + ")", () -> ice.blockOf(b, n), () -> model.blockOf(b, n));
            case 1:
                return same("mass(" + b + ")", () -> ice.mass(b), () -> model.mass(b));
            case 2:
                return same("load(" + b + ", " + is + ")", () -> ice.load(b, is), () -> model.load(b, is));
            case 3:
                return same("loadAgain(" + b + ")", () -> ice.loadAgain(b), () -> model.loadAgain(b));
            case 4:
                return same("sign(" + b + ")", () -> ice.sign(b), () -> model.sign(b));
            default:
                return same("isShady(" + b + ", " + h + ")", () -> ice.isShady(b, h), () -> model.isShady(b, h));
        }
    }

    private boolean askWall() {
        int c = edge(0, 11);
        int r = edge(0, 7);
        int n = edge(0, 2);
        int a = edge(0, 14);
        int rack = edge(0, 1);
        int place = edge(0, 4);
        switch (any(8)) {
            case 0:
                return same("at(" + c + ", " + r + ")", () -> ice.at(c, r), () -> model.at(c, r));
            case 1:
                return same("height(" + c + ")", () -> ice.height(c), () -> model.height(c));
            case 2:
                return same("rooms(" + r + ", " + n + ")", () -> ice.rooms(r, n), () -> model.rooms(r, n));
            case 3:
                return same("inRack(" + rack + ", " + place + ")",
                        () -> ice.inRack(rack, place), () -> model.inRack(rack, place));
            case 4:
                return same("worst()", () -> ice.worst(), () -> model.worst());
            case 5:
                return same("isWell()", () -> ice.isWell(), () -> model.isWell());
            case 6:
                return same("meanBits()", () -> ice.meanBits(), () -> model.meanBits());
            default:
                return same("account(" + a + ")", () -> ice.account(a), () -> model.account(a));
        }
    }

    private boolean askAhead(int b) {
        int h = edge(0, 48);
        switch (any(style == 3 ? 4 : 16)) {
            case 0:
                return same("goneIn()", () -> ice.goneIn(), () -> model.goneIn());
            case 1:
                return same("safe()", () -> ice.safe(), () -> model.safe());
            case 2:
                return same("left(" + h + ")", () -> ice.left(h), () -> model.left(h));
            default:
                return same("massBits(" + b + ", " + h + ")", () -> ice.massBits(b, h), () -> model.massBits(b, h));
        }
    }
}
