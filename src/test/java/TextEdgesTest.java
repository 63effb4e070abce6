import java.util.NoSuchElementException;

/** Boundary cases of texts: each place of each order with every character, ends, limits and what is thrown. */
public final class TextEdgesTest {
    private static final Class<IllegalArgumentException> ARGUMENT = IllegalArgumentException.class;
    private static final Class<UnsupportedOperationException> REFUSED = UnsupportedOperationException.class;
    private static final Class<IllegalStateException> STATE = IllegalStateException.class;
    private static final Class<NoSuchElementException> NONE = NoSuchElementException.class;
    private static final String DIGITS = "0123456789";
    private static final String FIRST = "slhvt";

    public static void main(String[] args) {
        sixtyCharacters();
        fullOfOrders();
        places();
        ends();
        semicolons();
        lengthsOfNumbers();
        emptyAfterwards();
        noErrorNoPosition();
        latestRead();
        leastAndGreatest();
        otherExceptions();
        refusedByEachReason();
        firstDecides();
        allOrNothing();
        numberOfOrders();
        Check.end("TextEdgesTest");
    }

    private static void sixtyCharacters() {
        Doc.terms("The input has at most 60 characters.");
        Doc.promise(23, "Returns the characters in the input then.");
        SawnIce x = new SawnIce();
        Check.is("empty", x.account(13), 0);
        for (int number = 1; number <= 60; number++) {
            Check.is("in the input", x.append((char) (number * 7)), number);
        }
        Doc.promise(23, "Throws `IllegalStateException` if the input contains 60 characters");
        for (char c : new char[] {'h', ';', 0, 255, 65535}) {
            Check.fails("one more", STATE, () -> x.append(c));
            Check.is("still 60", x.account(13), 60);
        }
        Check.fails("no text", ARGUMENT, () -> x.read());
        Check.is("empty then", x.account(13), 0);
        Check.is("one then", x.append('h'), 1);
    }

    private static void fullOfOrders() {
        Doc.terms("The input has at most 60 characters.");
        SawnIce x = new SawnIce();
        StringBuilder text = new StringBuilder("v50");
        for (int i = 0; i < 19; i++) {
            text.append(";v").append(i % 10);
        }
        Check.is("sixty characters", Palaces.type(x, text.toString()), 60);
        Check.is("twenty orders", x.read(), 20);
        Check.is("up to the last one", x.account(3), 8);
        text.setCharAt(59, 'v');
        Palaces.type(x, text.toString());
        Check.fails("an error at the end", ARGUMENT, () -> x.read());
        Check.is("the last place", x.errorPosition(), 59);
        Palaces.type(x, "h1;h1;h1;h1;h1;h1;h1;h1;h1;h1;h1;h1;h1;h1;h1;h1;h1;h1;h1;h1;");
        Check.fails("sixty characters, the order is missing", ARGUMENT, () -> x.read());
        Check.is("behind the last place", x.errorPosition(), 60);
        Check.is("the clock stands", x.account(0), 0);
    }

    /** Orders, with what may stand at each place of them and behind them. */
    private static void places() {
        Doc.terms("The error position of a text is the offset of the first character that cannot continue such a text,"
                + " or the length of the text if it ends too early.");
        String d = DIGITS;
        place("s01@0", FIRST, d, d, "@", d, ";");
        place("s16@1", FIRST, d, d, "@", d, ";");
        place("l1@2/3", FIRST, d, d + "@", d, d + "/", d, ";");
        place("l12@11/7", FIRST, d, d + "@", "@", d, d + "/", "/", d, ";");
        place("l1@11/7", FIRST, d, d + "@", d, d + "/", "/", d, ";");
        place("l12@1/7", FIRST, d, d + "@", "@", d, d + "/", d, ";");
        place("h1", FIRST, d, d + ";");
        place("h48", FIRST, d, d + ";", ";");
        place("v5", FIRST, d, d + ";");
        place("v50", FIRST, d, d + ";", ";");
        place("t5=9", FIRST, d, d + "=", d + "-", d + ";");
        place("t5=19", FIRST, d, d + "=", d + "-", d + ";", ";");
        place("t23=-9", FIRST, d, d + "=", "=", d + "-", d, d + ";");
        place("t23=-30", FIRST, d, d + "=", "=", d + "-", d, d + ";", ";");
    }

    private static void place(String order, String... allowed) {
        Check.is("a place each of " + order, allowed.length, order.length() + 1);
        for (String before : new String[] {"", "v1;", "h2;t11=-20;"}) {
            for (int at = 0; at <= order.length(); at++) {
                String start = before + order.substring(0, at);
                for (int c = 0; c <= 300; c++) {
                    lookAt(start, (char) c, allowed[at].indexOf(c) >= 0);
                }
            }
        }
    }

    private static void lookAt(String start, char c, boolean isAllowed) {
        SawnIce x = new SawnIce();
        Palaces.type(x, start);
        x.append(c);
        Check.outcome(x::read);
        int position = x.errorPosition();
        String what = "error in " + start + " and the character " + (int) c;
        if (isAllowed) {
            Check.is(what, position == -1 || position == start.length() + 1, true);
        } else {
            Check.is(what, position, start.length());
            // What stands behind the error makes no difference.
            SawnIce y = new SawnIce();
            Palaces.type(y, start);
            y.append(c);
            Palaces.type(y, ";v1");
            Check.fails(what, ARGUMENT, () -> y.read());
            Check.is(what + " and more", y.errorPosition(), start.length());
        }
    }

    private static void ends() {
        Doc.terms("or the length of the text if it ends too early.");
        String[] orders = {"s01@0", "l12@11/7", "h48", "v50", "t23=-30", "t5=19"};
        String[] whole = {"5", "8", "23", "23", "67", "45"};
        for (int i = 0; i < orders.length; i++) {
            for (int length = 0; length <= orders[i].length(); length++) {
                for (String before : new String[] {"", "v1;"}) {
                    String text = before + orders[i].substring(0, length);
                    boolean isWhole = length > 0 && whole[i].indexOf('0' + length) >= 0;
                    SawnIce x = new SawnIce();
                    Palaces.type(x, text);
                    Check.outcome(x::read);
                    Check.is("error in " + text, x.errorPosition(), isWhole ? -1 : text.length());
                }
            }
        }
    }

    private static void semicolons() {
        Doc.terms("A text consists of orders with a semicolon between two of them:");
        String[] texts = {"v1", "v1;v2", "v1;v2;v3", "", ";", ";v1", "v1;", "v1;;v2", "v1;;", "v1v2", "v1,v2", "v1; v2",
            "v1 ;v2", "s01@0s01@0", "h1h1"};
        int[] errors = {-1, -1, -1, 0, 0, 0, 3, 3, 3, 2, 2, 3, 2, 5, 2};
        for (int i = 0; i < texts.length; i++) {
            SawnIce x = new SawnIce();
            Palaces.type(x, texts[i]);
            Check.is("read " + texts[i], Check.outcome(x::read).equals(ARGUMENT.getName()), errors[i] >= 0);
            Check.is("error in " + texts[i], x.errorPosition(), errors[i]);
        }
    }

    private static void lengthsOfNumbers() {
        Doc.terms("Kinds, lengths, racks and courses are one digit, numbers, columns and hours of the day are one or two"
                + " digits.");
        String[] texts = {"s011@0", "s01@00", "s01@0", "l0@0/00", "l0@000/0", "l000@0/0", "h001", "h01", "v007", "v07",
            "t005=1", "t05=1", "t05=001", "t05=01", "t05=-001", "t05=-01"};
        int[] errors = {3, 5, -1, 6, 5, 3, 3, -1, 3, -1, 3, -1, 6, -1, 7, -1};
        for (int i = 0; i < texts.length; i++) {
            SawnIce x = new SawnIce();
            Palaces.type(x, texts[i]);
            Check.outcome(x::read);
            Check.is("error in " + texts[i], x.errorPosition(), errors[i]);
        }
        SawnIce x = new SawnIce();
        Check.is("two digits with a 0 before", Palaces.read(x, "s01@0;l00@06/0;v09;h02;t03=-07"), 5);
        Check.is("the block 0 in the column 6", x.at(6, 0), 0);
        Check.is("nine visitors", x.account(3), 9);
        Check.is("two hours", x.account(0), 2);
        Check.is("the hour 3", x.heat(3, 0), -7);
        Check.is("minus 0 is 0", Palaces.read(x, "t3=-0;t4=-00"), 2);
        Check.is("so it is", x.heat(3, 1) + x.heat(4, 1), 0);
    }

    private static void emptyAfterwards() {
        Doc.promise(24, "Carries out the text in the input, which is empty afterwards, also if an exception is thrown.");
        String[] texts = {"v1", "v", "v51", "s11@0", "h0", ""};
        for (String text : texts) {
            SawnIce x = new SawnIce();
            Palaces.type(x, text);
            Check.is("typed", x.account(13), text.length());
            Check.outcome(x::read);
            Check.is("empty after " + text, x.account(13), 0);
            Check.is("begins anew after " + text, Palaces.read(x, "v7"), 1);
            Check.is("seven", x.account(3), 7);
        }
        SawnIce x = new SawnIce();
        Palaces.read(x, "v1");
        Check.fails("an empty text is none", ARGUMENT, () -> x.read());
        Check.is("error at 0", x.errorPosition(), 0);
    }

    private static void noErrorNoPosition() {
        Doc.terms("A text without an error has no error position, also if it is refused.");
        for (String text : new String[] {"v1", "s11@0", "s01@0;l0@9/1"}) {
            SawnIce x = new SawnIce();
            Check.fails("an error first", ARGUMENT, () -> Palaces.read(x, "v1;w"));
            Check.is("its position", x.errorPosition(), 3);
            Palaces.type(x, text);
            Check.outcome(x::read);
            Check.is("none in " + text, x.errorPosition(), -1);
        }
        Doc.promise(24, "if the text has no error, its position is -1");
        for (String text : new String[] {"v51", "h0", "t24=0", "s01@2", "l0@0/0"}) {
            SawnIce x = new SawnIce();
            Check.fails("an error first", ARGUMENT, () -> Palaces.read(x, "h"));
            Check.is("its position", x.errorPosition(), 1);
            Check.fails("out of range: " + text, ARGUMENT, () -> Palaces.read(x, text));
            Check.is("none in " + text, x.errorPosition(), -1);
        }
    }

    private static void latestRead() {
        Doc.promise(25, "Returns the error position, or -1 if that text had no error or read has not been called.");
        SawnIce x = new SawnIce();
        Check.is("not called", x.errorPosition(), -1);
        x.append('q');
        Check.is("still not called", x.errorPosition(), -1);
        Check.fails("called", ARGUMENT, () -> x.read());
        Check.is("the first place", x.errorPosition(), 0);
        Palaces.type(x, "v1;v2;v");
        Check.is("of the latest read, not of the input", x.errorPosition(), 0);
        Check.fails("called again", ARGUMENT, () -> x.read());
        Check.is("of the latest", x.errorPosition(), 7);
        Check.is("no error", Palaces.read(x, "v3"), 1);
        Check.is("none", x.errorPosition(), -1);
    }

    private static void leastAndGreatest() {
        Doc.terms("A text is carried out if each order can be, one after the other;");
        SawnIce x = new SawnIce();
        Check.is("least", Palaces.read(x, "s01@0;s11@1;l0@0/0;l1@1/0;h1;v0;t0=-30"), 7);
        Check.is("one hour", x.account(0), 1);
        Check.is("laid", x.at(0, 0) + " " + x.at(1, 0), "0 1");
        Check.is("the coldest", x.heat(0, 0), -30);
        Check.is("greatest", Palaces.read(x, "s06@0;s16@1;l2@6/0;l3@6/1;v50;t23=20;t0=20"), 7);
        Check.is("laid on", x.at(11, 0) + " " + x.at(11, 1), "2 3");
        Check.is("the hottest", x.heat(23, 0) + " " + x.heat(0, 0), "20 20");
        Check.is("fifty", x.account(3), 50);
        Check.is("two days", Palaces.read(x, "h48"), 1);
        Check.is("clock", x.account(0), 49);
        SawnIce y = new SawnIce();
        Palaces.tower(y, 11, 7);
        Check.is("the last column and the last course", Palaces.read(y, "s01@0;l7@11/7"), 2);
        Check.is("there", y.at(11, 7), 7);
    }

    private static SawnIce withOneBlock() {
        SawnIce x = new SawnIce();
        x.saw(0, 6, 0);
        return x;
    }

    private static void otherExceptions() {
        Doc.promise(24, "or the method for an order would throw another exception than UnsupportedOperationException");
        String[] texts = {"s21@0", "s91@0", "s00@0", "s07@0", "s09@0", "s01@2", "s01@9", "l1@0/0", "l99@0/0", "l0@12/0",
            "l0@99/0", "l0@0/8", "l0@0/9", "h0", "h00", "h49", "h99", "v51", "v99", "t24=0", "t99=0", "t0=21", "t0=99",
            "t0=-31", "t0=-99", "s29@9", "t24=21", "l9@99/9"};
        for (String text : texts) {
            for (String before : new String[] {"", "v1;", "s01@0;h9;"}) {
                SawnIce x = withOneBlock();
                String start = before.startsWith("s") ? text.replace("l1@", "l2@") : text;
                String was = Palaces.all(x);
                Check.fails(before + start, ARGUMENT, () -> Palaces.read(x, before + start));
                Check.is("no error in " + before + start, x.errorPosition(), -1);
                Check.is("nothing is done of " + before + start, Palaces.all(x), was);
                Check.fails("no reason by " + before + start, NONE, () -> x.refusal(false));
            }
        }
    }

    private static void refusedByEachReason() {
        Doc.promise(24, "Throws `UnsupportedOperationException` if it is refused for reason of the method for an order; the"
                + " reason is kept for refusal");
        String[][] cases = {{"s11@0", "5: 0"}, {"s01@1", "5: 1"}, {"l0@7/0", "7: 1"}, {"l0@11/0", "7: 5"},
            {"l0@0/1", "9: 0"}, {"l0@0/7", "9: 0"}, {"l0@0/0;l0@0/0", "6: 0"}, {"s01@0;l1@3/0;l0@0/0", "8: 1"},
            {"s02@0;l1@0/0;l0@0/1", "9: 2"}, {"s01@0;s01@0;s01@0;s01@0;s01@0", "4: 0"},
            {"t0=20;t1=20;t2=15;h3;s01@0", "2: 9"}, {"t0=20;t1=20;t2=20;h3;s02@0", "2: 8"}};
        for (String[] one : cases) {
            SawnIce x = withOneBlock();
            String was = Palaces.all(x);
            Check.fails(one[0], REFUSED, () -> Palaces.read(x, one[0]));
            Check.is("reason of " + one[0], Palaces.refusal(x), one[1]);
            Check.is("nothing is done of " + one[0], Palaces.all(x), was);
        }
        SawnIce forty = new SawnIce();
        for (int i = 0; i < 39; i++) {
            forty.take(forty.saw(0, 5, 0));
        }
        Check.fails("forty", REFUSED, () -> Palaces.read(forty, "s05@0;s01@0"));
        Check.is("reason 1", Palaces.refusal(forty), "1: 40");
        Check.is("39 are sawn", forty.account(4), 39);
        Check.fails("too little is left", REFUSED, () -> Palaces.read(forty, "s06@0"));
        Check.is("reason 3", Palaces.refusal(forty), "3: 5");
        Check.is("the fortieth", Palaces.read(forty, "s05@0"), 1);
    }

    private static void firstDecides() {
        Doc.terms("the first order that cannot be decides what is thrown.");
        SawnIce x = withOneBlock();
        Check.fails("refused, then out of range", REFUSED, () -> Palaces.read(x, "v1;l0@7/0;v51"));
        Check.is("its reason", Palaces.refusal(x), "7: 1");
        Check.fails("out of range, then refused", ARGUMENT, () -> Palaces.read(x, "v1;v51;s11@0"));
        Check.is("the reason stays", Palaces.refusal(x), "7: 1");
        Check.fails("refused twice", REFUSED, () -> Palaces.read(x, "l0@0/1;s11@0"));
        Check.is("the first of them", Palaces.refusal(x), "9: 0");
        Check.fails("refused, but with an error behind", ARGUMENT, () -> Palaces.read(x, "s11@0;h1;h"));
        Check.is("the error", x.errorPosition(), 10);
        Check.is("the reason still stays", Palaces.refusal(x), "9: 0");
        Check.fails("out of range and an error", ARGUMENT, () -> Palaces.read(x, "h0;v51;"));
        Check.is("the error then", x.errorPosition(), 7);
    }

    private static void allOrNothing() {
        Doc.terms("else nothing of it is");
        String[] texts = {"v9;t0=20;s01@0;l0@0/0;h48;v51", "v9;t0=20;s01@0;l0@0/0;h48;s11@0", "v9;t0=20;h48;v"};
        for (String text : texts) {
            SawnIce x = withOneBlock();
            String was = Palaces.all(x);
            Check.outcome(() -> Palaces.read(x, text));
            Check.is("nothing of " + text, Palaces.all(x), was);
            Check.is("no change by " + text, x.account(14), 1);
            Check.is("not even the temperature", x.heat(0, 0), -5);
            x.undo();
            Check.is("the change before is undone", x.undo(), 0);
        }
        // An order may build on the ones before it, and the same block can be sawn only by one of them.
        SawnIce x = new SawnIce();
        Check.is("one after the other", Palaces.read(x, "s06@0;l0@0/0;s06@0;l1@3/1"), 4);
        Check.is("laid on one another", x.height(8), 2);
        Check.fails("not before it is sawn", ARGUMENT, () -> Palaces.read(x, "l2@0/1;s01@0"));
    }

    private static void numberOfOrders() {
        Doc.promise(24, "Returns the number of orders.");
        StringBuilder text = new StringBuilder("v1");
        for (int number = 1; number <= 20; number++) {
            Check.is("orders", Palaces.read(new SawnIce(), text.toString()), number);
            text.append(";v2");
        }
    }
}
