import java.util.NoSuchElementException;

/** The edges of promises 27 to 30; each test stands below the words of the document that it holds to. */
public final class TextsEdgesTest {
    private static final Class<IllegalArgumentException> ILLEGAL = IllegalArgumentException.class;
    private static final Class<IllegalStateException> BAD_STATE = IllegalStateException.class;
    private static final Class<NoSuchElementException> NONE_SUCH = NoSuchElementException.class;
    private static final String DIGITS = "0123456789";
    private static final String LETTERS = "pbxfwhj";

    public static void main(String[] args) {
        Checks.runTestsOf(TextsEdgesTest.class);
    }

    // "The input has at most 60 characters."; "Returns the characters in the input then."
    private static void promise27FromTheFirstToTheSixtieth() {
        FlagHues x = new FlagHues();
        for (int many = 1; many <= 60; many++) {
            Checks.due("append number " + many, many, x.append('f'));
            Checks.due("account(11)", many, x.account(11));
        }
        Checks.due("append is no change", 0, x.account(12));
    }

    // "Throws IllegalStateException if the input contains 60 characters"
    private static void promise27TheSixtyFirst() {
        Checks.dueThrowLeavingAll("append number 61", BAD_STATE, () -> withInput(Checks.padded(60, "x;j0+1")),
                x -> x.append('f'));
        Checks.dueThrowLeavingAll("append number 61, a semicolon", BAD_STATE, () -> withInput(Checks.padded(60, "f;")),
                x -> x.append(';'));
        FlagHues y = withInput(Checks.padded(59, "f"));
        Checks.due("append number 60", 60, y.append(';'));
        Checks.dueThrow("append number 61", BAD_STATE, () -> y.append('f'));
        Checks.dueThrow("append number 61 again", BAD_STATE, () -> y.append('f'));
        Checks.dueThrow("read()", ILLEGAL, y::read);
        Checks.due("it ended too early", 60, y.errorPosition());
    }

    // Any character is taken; only read minds which.
    private static void promise27AnyCharacter() {
        for (char c : new char[] {0, ' ', 127, 255, 256, '\uffff', '0', ';'}) {
            Checks.due("append of " + (int) c, 1, new FlagHues().append(c));
        }
    }

    // "The input, the line, the error position and the reason are neither undone nor saved, and stay."
    private static void promise27TheInputStays() {
        FlagHues x = Checks.withSizes(1, 1);
        x.save();
        Checks.type(x, "p0=0;p1");
        x.undo();
        Checks.due("after undo", 7, x.account(11));
        x.restore();
        Checks.due("after restore", 7, x.account(11));
        x.save();
        Checks.due("the next", 9, appended(x, "=1"));
        Checks.due("read()", 2, x.read());
        Checks.due("both are painted", "01", Checks.stepsOf(x));
        x.restore();
        Checks.due("nothing comes back into the input", 0, x.account(11));
    }

    private static int appended(FlagHues x, String text) {
        Checks.type(x, text);
        return x.account(11);
    }

    // "Carries out the text in the input, which is empty afterwards, also if an exception is thrown."
    private static void promise28TheInputIsEmptyAfterwards() {
        for (String text : new String[] {"f", "f;", "?", "h6", "p9=0", "x", "h1;x", Checks.padded(60, "f;")}) {
            FlagHues x = withInput(text);
            Checks.outcomeOf(x::read);
            Checks.due("account(11) after " + text, 0, x.account(11));
            Checks.due("append() after " + text, 1, x.append('f'));
            Checks.due("read() after " + text, 1, x.read());
        }
    }

    // "Throws IllegalArgumentException if the text has an error": an empty one ends too early, at 0.
    private static void promise28AnEmptyText() {
        Checks.dueThrow("read() of nothing", ILLEGAL, () -> new FlagHues().read());
        FlagHues x = new FlagHues();
        Checks.outcomeOf(x::read);
        Checks.due("errorPosition()", 0, x.errorPosition());
        Checks.due("no change", 0, x.account(12));
        x.append('f');
        x.read();
        Checks.dueThrow("read() a second time", ILLEGAL, x::read);
        Checks.due("errorPosition()", 0, x.errorPosition());
        Checks.due("one change", 1, x.account(12));
    }

    // "Returns the number of orders."
    private static void promise28FromOneOrderToThirty() {
        for (int many = 1; many <= 30; many++) {
            StringBuilder text = new StringBuilder("f");
            for (int i = 1; i < many; i++) {
                text.append(";f");
            }
            FlagHues x = new FlagHues();
            Checks.due("read() of " + many + " orders", many, Checks.read(x, text.toString()));
            Checks.due("one change", 1, x.account(12));
        }
        Checks.due("60 characters", 30, withInput(Checks.padded(60, "h3;f")).read());
    }

    // "'p', a country, '=' and a hue paints it"; "'b' [..] makes a border"; "'x' takes one step back"; "'f' fills in"
    private static void promise28OrdersToPaint() {
        FlagHues x = Checks.full();
        x.hues(5);
        Checks.due("p and b", 4, Checks.read(x, "p6=4;p0=0;b6-0;b2-3"));
        Checks.due("the steps", "60", Checks.stepsOf(x));
        Checks.due("the hue of 6", 4, x.countryOf(6, 1));
        Checks.due("the hue of 0", 0, x.countryOf(0, 1));
        Checks.due("the borders", true, x.hasBorder(0, 6) && x.hasBorder(3, 2) && x.account(1) == 2);
        Checks.due("x", 1, Checks.read(x, "x"));
        Checks.due("the steps after x", "6", Checks.stepsOf(x));
        Checks.due("paint was taken off", 1, x.account(8));
        Checks.due("x;h1;f", 3, Checks.read(x, "x;h1;f"));
        Checks.due("all but 3 and 6 are filled in", "01245", Checks.stepsOf(x));
    }

    // "'w', a country, '=', a hue, '*' and a crown sets its wish; 'h' and a number sets how many hues can be used"
    private static void promise28OrdersWithTheLeastAndTheMost() {
        FlagHues x = Checks.full();
        Checks.due("w", 2, Checks.read(x, "w0=0*0;w6=4*9"));
        Checks.due("the wish of 0", 0, x.countryOf(0, 4));
        Checks.due("the crown of 0", 0, x.countryOf(0, 5));
        Checks.due("the wish of 6", 4, x.countryOf(6, 4));
        Checks.due("the crown of 6", 9, x.countryOf(6, 5));
        for (String number : new String[] {"1", "5", "01", "05", "3", "04"}) {
            Checks.due("h" + number, 1, Checks.read(x, "h" + number));
            Checks.due("the hues", Integer.parseInt(number), x.account(2));
        }
        Checks.due("j", 2, Checks.read(x, "j0+1;j4+50"));
        Checks.due("the pots of 0", 10, x.hueOf(0, 0));
        Checks.due("the pots of 4", 59, x.hueOf(4, 0));
        Checks.due("j0+01, and more than 99", 2, Checks.read(x, "j0+01;j4+41"));
        Checks.due("the pots of 0 then", 11, x.hueOf(0, 0));
        Checks.due("the pots of 4 then", 99, x.hueOf(4, 0));
    }

    // "or the method for an order would throw another exception than UnsupportedOperationException; if the text has no
    // error, its position is -1"
    private static void promise28OutOfRange() {
        String[] texts = {"p2=0", "p9=9", "p0=5", "p1=5", "p0=9", "b0-2", "b2-0", "b2-2", "b9-0", "w2=0*0", "w0=5*0",
            "w0=9*9", "h0", "h00", "h6", "h06", "h10", "h99", "j5+1", "j9+1", "j0+0", "j0+00", "j0+51", "j4+99",
            "j5+0"};
        for (String text : texts) {
            for (String before : new String[] {"", "f;", "p0=0;b0-1;j0+9;w0=1*2;"}) {
                dueUnread(before + text, -1);
            }
        }
    }

    /** Checks that the text is not carried out for another reason than a refusal, and leaves all but the input. */
    private static void dueUnread(String text, int position) {
        FlagHues x = prepared();
        FlagHues y = prepared();
        Checks.type(x, text);
        Checks.dueThrow("read() of " + text, ILLEGAL, x::read);
        Checks.due("errorPosition() of " + text, position, x.errorPosition());
        Checks.dueReason("the reason before " + text, 5, 1, x);
        Checks.due("the input after " + text, 0, x.account(11));
        Checks.due("the map after " + text, Checks.pictureOf(y), Checks.pictureOf(x));
        Checks.due("undo() after " + text, y.undo(), x.undo());
        Checks.due("the map after " + text + " and undo()", Checks.pictureOf(y), Checks.pictureOf(x));
    }

    /** Two countries, one of them painted, with a reason, an error position and changes from before. */
    private static FlagHues prepared() {
        FlagHues x = Checks.withSizes(1, 1);
        Checks.outcomeOf(() -> Checks.read(x, "f?"));
        Checks.outcomeOf(() -> x.border(1, 1));
        x.wish(1, 2, 5);
        x.pots(3, 4);
        return x;
    }

    // "Throws UnsupportedOperationException if it is refused for a reason of the method for an order"
    private static void promise28EachReason() {
        String[] texts = {"p1=2", "p0=3", "p0=0", "p0=2", "b0-0", "b0-1", "b1-3", "x;x;x;x", "h2"};
        int[][] reasons = {{2, 0}, {10, 3}, {3, 1}, {4, 1}, {5, 0}, {6, 1}, {7, 0}, {8, 0}, {9, 2}};
        for (int i = 0; i < texts.length; i++) {
            for (String before : new String[] {"", "h3;", "j4+5;b0-3;w3=1*2;"}) {
                String text = before + texts[i];
                FlagHues x = refusing();
                String picture = Checks.pictureOf(x);
                Checks.type(x, text);
                Checks.dueRefusal("read() of " + text, reasons[i][0], reasons[i][1], x, x::read);
                Checks.due("errorPosition() of " + text, -1, x.errorPosition());
                Checks.due("the map after " + text, picture, Checks.pictureOf(x));
                Checks.due("the input after " + text, 0, x.account(11));
            }
        }
    }

    /** Country 0 has one free hue and needs all pots of it; 1 and 3 have hue 0, country 2 has hue 2. */
    private static FlagHues refusing() {
        FlagHues x = Checks.withSizes(9, 1, 1, 1);
        x.border(0, 1);
        x.paint(1, 0);
        x.paint(3, 0);
        x.paint(2, 2);
        return x;
    }

    // "the first order that cannot be decides what is thrown"
    private static void promise28TheFirstThatCannotBeDecides() {
        FlagHues x = Checks.withSizes(1, 1);
        Checks.type(x, "b0-1;p0=0;p1=0;h9;b1-1");
        Checks.dueRefusal("refused before out of range", 3, 0, x, x::read);
        Checks.type(x, "h9;b1-1");
        Checks.dueThrow("out of range before refused", ILLEGAL, x::read);
        Checks.dueReason("the reason stays", 3, 0, x);
        Checks.type(x, "b1-1;x");
        Checks.dueRefusal("refused before refused", 5, 1, x, x::read);
        Checks.type(x, "x;b1-1");
        Checks.dueRefusal("the other way round", 8, 0, x, x::read);
        Checks.type(x, "b1-1;h9;?");
        Checks.dueThrow("an error before all", ILLEGAL, x::read);
        Checks.due("its position", 8, x.errorPosition());
        Checks.dueReason("the reason stays", 8, 0, x);
    }

    // "A text is carried out if each order can be, one after the other"
    private static void promise28EachOrderSeesThoseBefore() {
        FlagHues x = Checks.withSizes(1, 1, 1);
        Checks.due("a hue that can be used only then", 2, Checks.read(x, "h5;p0=4"));
        Checks.due("a step to take back only then", 4, Checks.read(x, "x;h1;p0=0;x"));
        Checks.due("pots that are there only then", 1, Checks.read(x, "j0+50"));
        Checks.type(x, "h3;b2-1;p1=2;p2=2");
        Checks.dueRefusal("a neighbour that has it only then", 3, 1, x, x::read);
        Checks.type(x, "p1=0;p2=0;b2-1");
        Checks.dueRefusal("one hue on both sides only then", 7, 0, x, x::read);
        Checks.type(x, "h5;p2=4;h4");
        Checks.dueRefusal("a hue that is needed only then", 9, 2, x, x::read);
        Checks.due("one hue is left as it was", 1, x.account(2));
        FlagHues large = Checks.withSizes(9, 9);
        Checks.type(large, "p0=0;x;p1=0");
        Checks.dueRefusal("pots that are gone only then", 4, 9, large, large::read);
        Checks.due("they are there again", 9, large.hueOf(0, 0));
        Checks.due("no paint was taken off", 0, large.account(8));
        Checks.due("no pots were used", 0, large.account(7));
    }

    // There is no order for country, erase, save, restore or undo, and letters are small.
    private static void promise28NoOtherOrders() {
        for (String text : new String[] {"c1", "e0-1", "s", "r", "u", "P0=0", "X", "F", "H3", "W0=0*0", "J0+1"}) {
            dueUnread(text, 0);
            dueUnread("f;" + text, 2);
        }
    }

    // "The error position of a text is the offset of the first character that cannot continue such a text, or the
    // length of the text if it ends too early."; "Numbers have one or two digits, all else is one digit."
    private static void promise29EveryCharacterAfterEveryBeginning() {
        dueNext("", LETTERS, false);
        dueNext("x", ";", true);
        dueNext("f", ";", true);
        dueNext("p", DIGITS, false);
        dueNext("p0", "=", false);
        dueNext("p0=", DIGITS, false);
        dueNext("p0=1", ";", true);
        dueNext("b", DIGITS, false);
        dueNext("b0", "-", false);
        dueNext("b0-", DIGITS, false);
        dueNext("b0-1", ";", true);
        dueNext("w", DIGITS, false);
        dueNext("w0", "=", false);
        dueNext("w0=", DIGITS, false);
        dueNext("w0=1", "*", false);
        dueNext("w0=1*", DIGITS, false);
        dueNext("w0=1*9", ";", true);
        dueNext("h", DIGITS, false);
        dueNext("h0", DIGITS + ";", true);
        dueNext("h03", ";", true);
        dueNext("j", DIGITS, false);
        dueNext("j0", "+", false);
        dueNext("j0+", DIGITS, false);
        dueNext("j0+1", DIGITS + ";", true);
        dueNext("j0+12", ";", true);
    }

    /** Tries each character after the beginning: as the first order, as the second, and at the end of the input. */
    private static void dueNext(String beginning, String next, boolean isWhole) {
        for (String before : new String[] {"", "f;", Checks.padded(58 - beginning.length(), "")}) {
            String text = before + beginning;
            duePosition(text, isWhole ? -1 : text.length());
            for (int c = 0; c < 300; c++) {
                duePositionAfter(text, (char) c, next);
            }
            for (char c : new char[] {0x660, 0x665, 0xff10, 0xff1d, 0x1070, 0x3030, 0x8030, 0xffff}) {
                duePositionAfter(text, c, next);
            }
        }
    }

    private static void duePositionAfter(String text, char c, String next) {
        if (next.indexOf(c) < 0) {
            duePosition(text + c, text.length());
            duePosition(text + c + "f", text.length());
        } else {
            FlagHues x = readQuietly(text + c);
            boolean isLater = x.errorPosition() == -1 || x.errorPosition() == text.length() + 1;
            Checks.due("whether " + text + c + " has no error before its end", true, isLater);
        }
    }

    private static void duePosition(String text, int position) {
        Checks.due("errorPosition() of " + text, position, readQuietly(text).errorPosition());
    }

    private static FlagHues readQuietly(String text) {
        FlagHues x = withInput(text);
        Checks.outcomeOf(x::read);
        return x;
    }

    // "or the length of the text if it ends too early", at 60 characters too
    private static void promise29SixtyCharacters() {
        for (String end : new String[] {"p", "p0", "p0=", "b", "b0", "b0-", "w", "w0", "w0=", "w0=1", "w0=1*", "h", "j",
            "j0", "j0+", "f;", "x;", "h3;", "j0+12;"}) {
            duePosition(Checks.padded(60, end), 60);
            duePosition(Checks.padded(59, end), 59);
        }
        for (String end : new String[] {"p0=1", "b0-1", "w0=1*9", "h3", "h03", "j0+1", "j0+12", "f", "x"}) {
            duePosition(Checks.padded(60, end), -1);
        }
        duePosition(Checks.padded(60, "ff"), 59);
        duePosition(Checks.padded(60, "h033"), 59);
        duePosition(Checks.padded(60, "j0+123"), 59);
        duePosition("?" + Checks.padded(59, "f"), 0);
    }

    // A shorter text ends where it ends: what was in the input before is not read again.
    private static void promise29AfterALongerText() {
        FlagHues x = Checks.withSizes(1, 1);
        Checks.due("a long text", 5, Checks.read(x, "p0=0;b0-1;w0=1*9;j0+12;h03"));
        String[] cut = {"p0=0;b", "p0=", "p", "", "p0=0;b0-1;w0=1*", "p0=0;"};
        for (String text : cut) {
            Checks.type(x, text);
            Checks.dueThrow("read() of " + text, ILLEGAL, x::read);
            Checks.due("errorPosition() of " + text, text.length(), x.errorPosition());
        }
        Checks.due("j0+1 after j0+12", 1, Checks.read(x, "j0+1"));
        Checks.due("the pots", 9 - 1 + 12 + 1, x.hueOf(0, 0));
    }

    // "or -1 if that text had no error or read has not been called"
    private static void promise29MinusOne() {
        FlagHues x = new FlagHues();
        Checks.dueLeavingAll("errorPosition() at first", -1, FlagHues::new, FlagHues::errorPosition);
        Checks.type(x, "??");
        Checks.due("with an input alone", -1, x.errorPosition());
        Checks.dueThrow("read()", ILLEGAL, x::read);
        Checks.due("of an error", 0, x.errorPosition());
        Checks.due("f", 1, Checks.read(x, "f"));
        Checks.due("of no error", -1, x.errorPosition());
        Checks.outcomeOf(() -> Checks.read(x, "f?"));
        Checks.due("of another error", 1, x.errorPosition());
        Checks.type(x, "x");
        Checks.dueRefusal("read() of x", 8, 0, x, x::read);
        Checks.due("of a refused text", -1, x.errorPosition());
        Checks.outcomeOf(() -> Checks.read(x, "f;"));
        Checks.due("of an early end", 2, x.errorPosition());
        Checks.type(x, "h9");
        Checks.dueThrow("read() of h9", ILLEGAL, x::read);
        Checks.due("of a text out of range", -1, x.errorPosition());
    }

    // "The input, the line, the error position and the reason are neither undone nor saved, and stay."
    private static void promise29TheErrorPositionStays() {
        FlagHues x = Checks.withSizes(1, 1);
        x.save();
        Checks.outcomeOf(() -> Checks.read(x, "f;f?"));
        x.undo();
        Checks.due("after undo", 3, x.errorPosition());
        x.restore();
        Checks.due("after restore", 3, x.errorPosition());
        x.paint(0, 0);
        Checks.dueRefusal("paint(0, 0)", 2, 0, x, () -> x.paint(0, 0));
        Checks.due("after calls that are refused", 3, x.errorPosition());
        x.save();
        Checks.due("append", 1, x.append('x'));
        Checks.due("after append", 3, x.errorPosition());
        Checks.due("read()", 1, x.read());
        Checks.due("the steps", "", Checks.stepsOf(x));
        x.undo();
        x.restore();
        Checks.due("the error position of the latest read", -1, x.errorPosition());
    }

    // "Throws NoSuchElementException if nothing was refused"
    private static void promise30NothingWasRefused() {
        for (boolean isDetail : new boolean[] {false, true}) {
            Checks.dueThrowLeavingAll("refusal(" + isDetail + ") at first", NONE_SUCH, FlagHues::new,
                    x -> x.refusal(isDetail));
            Checks.dueThrowLeavingAll("refusal(" + isDetail + ") after other exceptions", NONE_SUCH,
                    () -> withoutRefusal(), x -> x.refusal(isDetail));
        }
    }

    /** Has thrown every exception but UnsupportedOperationException. */
    private static FlagHues withoutRefusal() {
        FlagHues x = Checks.withSizes(1, 1);
        Checks.Call[] calls = {() -> x.country(0), () -> x.border(0, 2), () -> x.countryOf(0, 7), () -> x.hues(6),
            () -> x.pots(0, 51), () -> x.paint(0, 5), () -> x.bars(0, 4), () -> x.step(0), x::stuck, () -> x.waysFor(0),
            () -> x.wish(0, 0, 10), x::read, () -> Checks.read(x, "h6"), () -> Checks.read(x, "p0=9;b1-1"),
            x::restore, x::meanSize, () -> x.account(13)};
        for (Checks.Call call : calls) {
            Checks.outcomeOf(call);
        }
        return x;
    }

    // "Returns the reason of the latest refusal."
    private static void promise30EachReasonInTurn() {
        FlagHues x = Checks.withSizes(9, 1, 1, 1, 1, 1, 1);
        x.border(0, 1);
        x.paint(1, 0);
        x.paint(3, 0);
        x.paint(2, 2);
        Checks.dueRefusal("country(1)", 1, 7, x, () -> x.country(1));
        Checks.dueRefusal("paint(2, 4)", 2, 2, x, () -> x.paint(2, 4));
        Checks.dueRefusal("paint(0, 0)", 3, 1, x, () -> x.paint(0, 0));
        Checks.dueRefusal("paint(0, 2)", 4, 1, x, () -> x.paint(0, 2));
        Checks.dueRefusal("border(6, 6)", 5, 6, x, () -> x.border(6, 6));
        Checks.dueRefusal("border(1, 0)", 6, 0, x, () -> x.border(1, 0));
        Checks.dueRefusal("erase(0, 2)", 6, 2, x, () -> x.erase(0, 2));
        Checks.dueRefusal("erase(4, 4)", 5, 4, x, () -> x.erase(4, 4));
        Checks.dueRefusal("border(1, 3)", 7, 0, x, () -> x.border(1, 3));
        Checks.dueRefusal("hues(2)", 9, 2, x, () -> x.hues(2));
        Checks.dueRefusal("paint(0, 4)", 10, 4, x, () -> x.paint(0, 4));
        Checks.type(x, "x;x;x;x");
        Checks.dueRefusal("read() of four steps back", 8, 0, x, x::read);
        Checks.dueRefusal("country(9) again", 1, 7, x, () -> x.country(9));
    }

    // "The input, the line, the error position and the reason are neither undone nor saved, and stay."
    private static void promise30TheReasonStays() {
        FlagHues x = Checks.full();
        x.save();
        x.paint(4, 2);
        Checks.dueRefusal("paint(4, 0)", 2, 2, x, () -> x.paint(4, 0));
        x.back();
        Checks.dueReason("after back()", 2, 2, x);
        x.undo();
        x.undo();
        Checks.dueReason("after undo()", 2, 2, x);
        x.save();
        x.restore();
        Checks.dueReason("after restore()", 2, 2, x);
        x.bars(0, 4);
        Checks.dueReason("after bars()", 2, 2, x);
        Checks.outcomeOf(() -> x.country(0));
        Checks.outcomeOf(() -> x.paint(7, 0));
        Checks.outcomeOf(() -> Checks.read(x, "h6"));
        Checks.outcomeOf(() -> Checks.read(x, "b1-1;?"));
        Checks.dueReason("after other exceptions", 2, 2, x);
        Checks.due("read() of a text that is carried out", 1, Checks.read(x, "p0=0"));
        Checks.dueReason("after that", 2, 2, x);
    }

    // What is carried out is no refusal, and does not take the latest away.
    private static void promise30ChangesLeaveTheReason() {
        FlagHues x = Checks.withSizes(1, 1, 1);
        Checks.dueRefusal("erase(2, 1)", 6, 1, x, () -> x.erase(2, 1));
        Checks.Call[] changes = {() -> x.country(9), () -> x.border(0, 1), () -> x.erase(1, 0), () -> x.hues(5),
            () -> x.pots(4, 50), () -> x.paint(0, 1), x::back, x::fill, () -> x.wish(1, 4, 9),
            () -> Checks.read(x, "p1=0;b1-2;w1=0*3;j2+9;f;x;h4"), x::undo, x::save, x::restore};
        for (int i = 0; i < changes.length; i++) {
            String outcome = Checks.outcomeOf(changes[i]);
            Checks.due("whether change " + i + " is carried out", false, outcome.startsWith("throws"));
            Checks.dueReason("after change " + i, 6, 1, x);
        }
    }

    private static FlagHues withInput(String text) {
        FlagHues x = Checks.full();
        Checks.type(x, text);
        return x;
    }
}
